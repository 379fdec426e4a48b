def zT : List Cond := lw_tbl.filter goodWord
theorem zT_in {w : Cond} (i : Nat) (h : lw_tbl[i]? = some w) (hg : goodWord w = true) : w ∈ zT := List.mem_filter.mpr ⟨List.mem_of_getElem? h, hg⟩
/-! THE FRAME OF THE PROOF: one memory of 54 cells (44 of the class, 10 of the reference), rows of it, read and written by the methods; every method is walked against a function that a program wrote out of its bytecode. -/
abbrev zMem : Type := Nat → Nat → Int32
def wr (mem : zMem) (c i : Nat) (v : Int32) : zMem := fun k => if k = c then upd (mem c) i v else mem k
def cpy6 (mem : zMem) (a b : Nat) : zMem := fun k => if k = b then va_cpy (mem a) (mem b) 0 0 6 else mem k
/-- what the tables and the cells' addresses are: fields' places, the three array classes, addresses of the cells, of the String constants, of their bytes -/
abbrev zG : Type := va_G × (ClassId × ClassId × ClassId) × (Nat → Nat) × (Nat → Nat) × (Nat → Nat)
def zr (G : zG) (k : Nat) : Nat := G.2.2.1 k
def zk (G : zG) (k : Nat) : Nat := G.2.2.2.1 k
def zv (G : zG) (k : Nat) : Nat := G.2.2.2.2 k
def zcf (G : zG) (k : Nat) (f : Nat → Int32) : va_E := match k with
  | 0 => .inr (4, [.ref (zr G 1), .ref (zr G 6), .ref (zr G 11), .ref (zr G 13), .ref (zr G 30), .ref (zr G 35), .ref (zr G 36), .int (f 7), .int (f 8)])
  | 1 => .inr (2, [.ref (zr G 2), .ref (zr G 3), .ref (zr G 4), .ref (zr G 5), .int (f 4), .int (f 5), .int (f 6), .int (f 7), .int (f 8), .int (f 9)])
  | 2 => .inl (G.2.1.1, 160, .inl f)
  | 3 => .inl (G.2.1.1, 14, .inl f)
  | 4 => .inl (G.2.1.1, 14, .inl f)
  | 5 => .inl (G.2.1.1, 14, .inl f)
  | 6 => .inr (1, [.ref (zr G 7), .ref (zr G 8), .ref (zr G 9), .ref (zr G 10), .int (f 4), .int (f 5), .int (f 6), .int (f 7), .int (f 8)])
  | 7 => .inl (G.2.1.1, 8, .inl f)
  | 8 => .inl (G.2.1.1, 8, .inl f)
  | 9 => .inl (G.2.1.1, 8, .inl f)
  | 10 => .inl (G.2.1.1, 6, .inl f)
  | 11 => .inr (3, [.ref (zr G 12), .int (f 1), .int (f 2), .int (f 3), .int (f 4), .int (f 5), .int (f 6)])
  | 12 => .inl (G.2.1.1, 6, .inl f)
  | 13 => .inl (G.2.1.2.2, 8, .inr (.inr (.inr (.inr (fun j => some (zr G (14 + 2 * j)))))))
  | 14 => .inr (3, [.ref (zr G 15), .int (f 1), .int (f 2), .int (f 3), .int (f 4), .int (f 5), .int (f 6)])
  | 15 => .inl (G.2.1.1, 6, .inl f)
  | 16 => .inr (3, [.ref (zr G 17), .int (f 1), .int (f 2), .int (f 3), .int (f 4), .int (f 5), .int (f 6)])
  | 17 => .inl (G.2.1.1, 6, .inl f)
  | 18 => .inr (3, [.ref (zr G 19), .int (f 1), .int (f 2), .int (f 3), .int (f 4), .int (f 5), .int (f 6)])
  | 19 => .inl (G.2.1.1, 6, .inl f)
  | 20 => .inr (3, [.ref (zr G 21), .int (f 1), .int (f 2), .int (f 3), .int (f 4), .int (f 5), .int (f 6)])
  | 21 => .inl (G.2.1.1, 6, .inl f)
  | 22 => .inr (3, [.ref (zr G 23), .int (f 1), .int (f 2), .int (f 3), .int (f 4), .int (f 5), .int (f 6)])
  | 23 => .inl (G.2.1.1, 6, .inl f)
  | 24 => .inr (3, [.ref (zr G 25), .int (f 1), .int (f 2), .int (f 3), .int (f 4), .int (f 5), .int (f 6)])
  | 25 => .inl (G.2.1.1, 6, .inl f)
  | 26 => .inr (3, [.ref (zr G 27), .int (f 1), .int (f 2), .int (f 3), .int (f 4), .int (f 5), .int (f 6)])
  | 27 => .inl (G.2.1.1, 6, .inl f)
  | 28 => .inr (3, [.ref (zr G 29), .int (f 1), .int (f 2), .int (f 3), .int (f 4), .int (f 5), .int (f 6)])
  | 29 => .inl (G.2.1.1, 6, .inl f)
  | 30 => .inl (G.2.1.2.2, 2, .inr (.inr (.inr (.inr (fun j => some (zr G (31 + 2 * j)))))))
  | 31 => .inr (3, [.ref (zr G 32), .int (f 1), .int (f 2), .int (f 3), .int (f 4), .int (f 5), .int (f 6)])
  | 32 => .inl (G.2.1.1, 6, .inl f)
  | 33 => .inr (3, [.ref (zr G 34), .int (f 1), .int (f 2), .int (f 3), .int (f 4), .int (f 5), .int (f 6)])
  | 34 => .inl (G.2.1.1, 6, .inl f)
  | 35 => .inl (G.2.1.2.1, 2, .inl f)
  | 36 => .inr (0, [.ref (zr G 37), .ref (zr G 38), .ref (zr G 39), .ref (zr G 40), .ref (zr G 41), .ref (zr G 42), .ref (zr G 43), .int (f 7), .int (f 8)])
  | 37 => .inl (G.2.1.1, 6, .inl f)
  | 38 => .inl (G.2.1.1, 6, .inl f)
  | 39 => .inl (G.2.1.1, 6, .inl f)
  | 40 => .inl (G.2.1.1, 6, .inl f)
  | 41 => .inl (G.2.1.1, 6, .inl f)
  | 42 => .inl (G.2.1.1, 6, .inl f)
  | 43 => .inl (G.2.1.2.1, 6, .inl f)
  | 44 => .inr (5, [.ref (zr G 45), .int (f 1), .ref (zr G 46), .ref (zr G 47), .ref (zr G 48), .ref (zr G 49), .int (f 6), .ref (zr G 50), .ref (zr G 51), .ref (zr G 52), .int (f 10), .ref (zr G 53), .int (f 12), .int (f 13), .int (f 14), .int (f 15), .int (f 16)])
  | 45 => .inl (G.2.1.1, 160, .inl f)
  | 46 => .inl (G.2.1.1, 35, .inl f)
  | 47 => .inl (G.2.1.1, 35, .inl f)
  | 48 => .inl (G.2.1.1, 12, .inl f)
  | 49 => .inl (G.2.1.1, 96, .inl f)
  | 50 => .inl (G.2.1.1, 24, .inl f)
  | 51 => .inl (G.2.1.2.1, 2, .inl f)
  | 52 => .inl (G.2.1.1, 18, .inl f)
  | _ => .inl (G.2.1.1, 18, .inl f)
def WS (G : zG) (mem : zMem) : va_W := (List.range 54).map (fun k => (zr G k, zcf G k (mem k)))
theorem WS_get {G : zG} {mem : zMem} {k : Nat} {e : va_E} (hk : k < 54) (he : zcf G k (mem k) = e) : (WS G mem)[k]? = some (zr G k, e) := by
  subst he
  simp [WS, hk]
theorem WS_inv {G : zG} {mem : zMem} {k : Nat} {q : Nat × va_E} (h : (WS G mem)[k]? = some q) : k < 54 ∧ q.1 = zr G k := by
  by_cases hk : k < 54
  · rw [WS_get hk rfl] at h
    cases h
    exact ⟨hk, rfl⟩
  · rw [List.getElem?_eq_none (by simp [WS]; omega)] at h
    cases h
theorem WS_set {G : zG} {mem mem' : zMem} {k : Nat} {e : va_E} (hk : k < 54) (he : zcf G k (mem' k) = e) (ho : ∀ j, j ≠ k → mem' j = mem j) : (WS G mem).set k (zr G k, e) = WS G mem' := by
  subst he
  apply List.ext_getElem?
  intro j
  by_cases hj : j < 54
  · by_cases hjk : j = k
    · subst hjk
      rw [List.getElem?_set_self (by simp [WS, hj])]
      exact (WS_get hj rfl).symm
    · rw [List.getElem?_set_ne (Ne.symm hjk), WS_get hj rfl, WS_get (mem := mem') hj rfl, ho j hjk]
  · rw [List.getElem?_eq_none (by simp [WS]; omega), List.getElem?_eq_none (by simp [WS]; omega)]
def zAd (G : zG) : Nat → Prop := fun q => ∃ k : Nat, k < 54 ∧ q = zr G k
def zOK (G : zG) : Prop := ∀ i j : Nat, i < 54 → j < 54 → zr G i = zr G j → i = j
theorem zD {G : zG} (hG : zOK G) {A : Nat → Prop} (hA : ∀ q, zAd G q → A q) (mem : zMem) : va_D A (WS G mem) := by
  refine ⟨fun i j p q hi hj hpq => ?_, fun k q hk => ?_⟩
  · obtain ⟨h1, h2⟩ := WS_inv hi
    obtain ⟨h3, h4⟩ := WS_inv hj
    exact hG i j h1 h3 (by rw [← h2, ← h4, hpq])
  · obtain ⟨h1, h2⟩ := WS_inv hk
    exact hA _ ⟨k, h1, h2⟩
def zNw (U : State) : Prop := va_Nw (.methodLinkNest RX4 9 yX2_init RX4) U ∧ va_Nw (.methodLinkNest RX4 25 yX3_init RX4) U ∧ va_Nw (.methodLinkNest RX4 47 yX0_init RX4) U ∧ va_Nw (.methodLinkNest RX2 65 yX4_isWithin RX4) U ∧ va_Nw (.methodLinkNest RX1 51 yX4_isIn RX4) U ∧ va_Nw (.methodLinkNest RX1 55 yX4_ouncesOf RX4) U ∧ va_AO RX3 U
def jsLen : List Nat := [4, 4, 5, 5, 5, 4, 5, 4, 3]
def jsByt : List (List Int32) := [[107, 105, 114, 107], [119, 111, 114, 100], [103, 114, 101, 101, 107], [113, 117, 111, 116, 101], [112, 115, 97, 108, 109], [115, 111, 117, 108], [116, 104, 117, 109, 98], [98, 101, 97, 109], [119, 101, 116]]
def jsIx (i : Nat) : Nat := [92, 94, 95, 97, 99, 101, 103, 105, 107].getD i 0
def jsTx (i : Nat) : String := ["kirk", "word", "greek", "quote", "psalm", "soul", "thumb", "beam", "wet"].getD i ""
abbrev zTy (G : zG) : List (ClassId × FieldType) := [(G.2.1.1, .int), (G.2.1.2.1, .boolean), (G.2.1.2.2, .object RX3)]
def zSt (G : zG) (U : State) (H : Heap) : Prop := va_K G.1 vwCl (zTy G) U ∧ vk_S 9 jsLen jsByt (zk G) (zv G) (zAd G) U H ∧ (∀ i : Nat, i < 9 → vk_R RX2 (jsIx i) (jsTx i) (zk G i) U) ∧ va_Z "java/lang/String" "COMPACT_STRINGS" "Z" (.int 1) (zAd G) U H ∧ va_Zq "jdk/internal/util/Preconditions" "SIOOBE_FORMATTER" "Ljava/util/function/BiFunction;" (zAd G) U H ∧ zNw U
theorem zNw.warm {s U : State} (hW : s.WarmedH U.vm) (h : zNw s) : zNw U := ⟨va_Nw.warmM hW h.1, va_Nw.warmM hW h.2.1, va_Nw.warmM hW h.2.2.1, va_Nw.warmM hW h.2.2.2.1, va_Nw.warmM hW h.2.2.2.2.1, va_Nw.warmM hW h.2.2.2.2.2.1, va_AO.moved hW.alike h.2.2.2.2.2.2⟩
theorem zNw.same {s U : State} (hv : s.vm = U.vm) (h : zNw s) : zNw U := ⟨va_Nw.same rfl hv h.1, va_Nw.same rfl hv h.2.1, va_Nw.same rfl hv h.2.2.1, va_Nw.same rfl hv h.2.2.2.1, va_Nw.same rfl hv h.2.2.2.2.1, va_Nw.same rfl hv h.2.2.2.2.2.1, va_AO.moved (by rw [hv]; exact Vm.Alike.refl _) h.2.2.2.2.2.2⟩
theorem zSt.go {G : zG} {s U : State} {H : Heap} (h : zSt G s s.heap) (hq : ∀ a : Nat, a < s.heap.size → ¬ zAd G a → H[a]? = s.heap[a]?) (hW : s.WarmedH U.vm) : zSt G U H :=
  ⟨va_K.moved hW.alike h.1, (vk_S.moved hW.alike h.2.1).kept hq, fun i hi => (h.2.2.1 i hi).warm hW, (va_Z.moved hW.alike h.2.2.2.1).kept hq, (va_Zq.moved hW.alike h.2.2.2.2.1).kept hq, h.2.2.2.2.2.warm hW⟩
theorem zSt.same {G : zG} {s U : State} {H : Heap} (hv : s.vm = U.vm) (h : zSt G s H) : zSt G U H := by
  have ha : s.vm.Alike U.vm := by rw [hv]; exact Vm.Alike.refl _
  exact ⟨va_K.moved ha h.1, vk_S.moved ha h.2.1, fun i hi => (h.2.2.1 i hi).same hv.symm, va_Z.moved ha h.2.2.2.1, va_Zq.moved ha h.2.2.2.2.1, h.2.2.2.2.2.same hv⟩
def zPre (G : zG) (mem : zMem) (U : State) : Prop := va_P G.1 vwCl (WS G mem) U.heap ∧ zSt G U U.heap
def zPost (G : zG) (mem : zMem) (t : State) : Prop := va_P G.1 vwCl (WS G mem) t.heap
theorem zBlind {G : zG} {mem : zMem} {As : List Value} : FrameBlind (va_Pc As (zPre G mem)) := fun a U g mk q => ⟨q.1, q.2.1, zSt.same (U := U.calling g mk a) rfl q.2.2⟩
def zQi (G : zG) (r : Int32) (mem : zMem) : Array Value → State → Outcome → State → Prop := va_Qi (fun (r' : Int32) (_ : Unit) => r' = r) (fun _ t => zPost G mem t) (zAd G)
def zQv (G : zG) (mem : zMem) : Array Value → State → Outcome → State → Prop := va_Qv (fun (_ : Unit) => True) (fun _ t => zPost G mem t) (zAd G)
def zQs (G : zG) (i : Nat) (mem : zMem) : Array Value → State → Outcome → State → Prop := va_Qr (fun (_ : Unit) => True) (fun _ a t => a = zk G i ∧ zPost G mem t) (zAd G)
def zM (l : Launch) (G : zG) (y : MethodName) (cc : ByteArray) (nL : Nat) (ret : Option FieldType) (fr lo : Nat) (As : List Value) (mem : zMem) (Qc : Array Value → State → Outcome → State → Prop) : Prop :=
  Met l y (Cond.code y cc nL ret :: zT) ({ frames := fr, cells := 0, slots := 0, locals := lo } : Room) (va_Pc As (zPre G mem)) Qc 0 0 (zAd G)
/-- what stands while a method is walked -/
def zC (A : Nat → Prop) (G : zG) (p : Program) (s : State) (m : MethodId) (args : Array Value) (c : Code) (cc : ByteArray) (nL : Nat) (own : String) : Prop :=
  CallFix p m c cc nL s args zT own ∧ zOK G ∧ ((∀ q, zAd G q → A q) ∧ ∀ q, q < s.heap.size → A q → zAd G q) ∧ zSt G s s.heap
def zH (A : Nat → Prop) (G : zG) (s : State) (mem : zMem) (H : Heap) (locs : List Loc) : Prop := va_P G.1 vwCl (WS G mem) H ∧ va_S A s.heap H locs
theorem zC.now {A : Nat → Prop} {G : zG} {p : Program} {s : State} {m : MethodId} {args : Array Value} {c : Code} {cc : ByteArray} {nL : Nat} {own : String} (C : zC A G p s m args c cc nL own) {mem : zMem} {H : Heap} {locs : List Loc} (Z : zH A G s mem H locs) {U : State} (hW : s.WarmedH U.vm) : zSt G U H :=
  C.2.2.2.go (fun a h1 h2 => Z.2.2.1 a h1 (fun h => h2 (C.2.2.1.2 a h1 h))) hW
theorem zStart {l : Launch} {G : zG} {y : MethodName} {cc : ByteArray} {nL : Nat} {ret : Option FieldType} {fr lo : Nat} {As : List Value} {mem : zMem} {Qc : Array Value → State → Outcome → State → Prop} (hG : zOK G) (hy : plainName y.cls = true) (hlen : (lg_sl As).length ≤ nL)
    (body : ∀ (p : Program) (e : Env) (s : State) (m : MethodId) (below : List Frame) (meth : Method) (c : Code), zC (zAd G) G p s m As.toArray c cc nL y.cls → meth.sig.returnType = ret → meth.locks = false → ∀ ls : Array Slot, lv_has ls nL (lv_args 0 As) → zH (zAd G) G s mem s.heap [] → W p l e ({ frames := fr, cells := 0, slots := 0, locals := lo } : Room) s m As.toArray below meth c s.heap [] 0 0 (MQ below Qc As.toArray s 0 0 (zAd G)) (F0 m 0 ls [])) :
    zM l G y cc nL ret fr lo As mem Qc := by
  refine Met.ofW (cc := cc) (maxL := nL) (ret := ret) hy rfl ?_
  intro p e s m args below meth c s₁ B hml hv
  obtain ⟨rfl, hP, hS⟩ := hv
  have hts := atoms_spec (ws := Cond.code y cc nL ret :: zT) B.pre
  have hown : s.vm.findClass y.cls = some m.cls := findClass_of_methodNamed B.named
  rw [lg_entry_eq]
  exact body p e s m below meth c ⟨⟨B.exec, B.bytes, hml, hown, fun w hw => hts w (List.mem_cons_of_mem _ hw)⟩, hG, ⟨fun _ h => h, fun _ _ h => h⟩, hS⟩ B.returns B.notSynchronized _ (lv_entry As hlen) ⟨hP, va_S.rf⟩
def zin (i : Int32) (n : Nat) : Bool := decide (0 ≤ i.toInt ∧ i.toInt < n)
theorem zin_in {i : Int32} {n : Nat} (h : zin i n = true) : vp_in i n := vp_in_iff.mpr (of_decide_eq_true h)
def znz (x : Int32) : Bool := !decide (x = 0)
theorem znz_ne {x : Int32} (h : znz x = true) : ¬ x = 0 := by
  intro e
  subst e
  exact absurd h (by decide)
def zbo (x : Int32) : Bool := decide (x = 0) || decide (x = 1)
theorem zbo_nar {x : Int32} (h : zbo x = true) : narrow .boolean (.int x) = .int x := by
  unfold zbo at h
  rw [Bool.or_eq_true, decide_eq_true_eq, decide_eq_true_eq] at h
  rcases h with rfl | rfl <;> rfl
def zgd {α : Type} (b : Bool) (x : Option α) : Option α := match b with
  | true => x
  | false => none
theorem zgd_some {α : Type} {b : Bool} {x : Option α} {y : α} (h : zgd b x = some y) : b = true ∧ x = some y := by
  cases b
  · cases h
  · exact ⟨rfl, h⟩
def zb {α β : Type} (x : Option (α × zMem)) (k : α → zMem → Option β) : Option β := match x with
  | none => none
  | some z => k z.1 z.2
theorem zb_some {α β : Type} {x : Option (α × zMem)} {k : α → zMem → Option β} {y : β} (h : zb x k = some y) : ∃ (r : α) (mem : zMem), x = some (r, mem) ∧ k r mem = some y := by
  cases x with
  | none => cases h
  | some z => exact ⟨z.1, z.2, rfl, h⟩
def zlet {α : Type} (x : zMem) (k : zMem → Option α) : Option α := k x
theorem zlet_some {α : Type} {x : zMem} {k : zMem → Option α} {y : α} (h : zlet x k = some y) : ∃ z : zMem, z = x ∧ k z = some y := ⟨x, rfl, h⟩
theorem zGood {y : MethodName} {cc : ByteArray} {n : Nat} {r : Option FieldType} (h : Cond.code y cc n r ∈ zT) : GoodIn zT (Cond.code y cc n r :: zT) := by
  intro w hw
  rcases List.mem_cons.mp hw with rfl | hw
  · exact ⟨h, good_of_word (List.mem_filter.mp h).2⟩
  · exact ⟨hw, good_of_word (List.mem_filter.mp hw).2⟩
theorem zGoodL {y : MethodName} {cc : ByteArray} {n : Nat} {r : Option FieldType} (h : Cond.code y cc n r ∈ zT) : GoodIn lw_tbl (Cond.code y cc n r :: zT) := fun w hw => ⟨(List.mem_filter.mp (zGood h w hw).1).1, (zGood h w hw).2⟩
theorem zGood1 {w : Cond} {ws : List Cond} (h : w ∈ zT) (hw : GoodIn zT ws) : GoodIn zT (w :: ws) := by
  intro v hv
  rcases List.mem_cons.mp hv with rfl | hv
  · exact ⟨h, good_of_word (List.mem_filter.mp h).2⟩
  · exact hw v hv
theorem zGoodV {own C : String} {idx : Nat} {y : MethodName} {cc : ByteArray} {n : Nat} {r : Option FieldType} (h1 : Cond.methodLink own idx y ∈ zT) (h2 : Cond.instanceMethod y ∈ zT) (h3 : Cond.selects C y y ∈ zT) (h4 : Cond.initialized C ∈ zT) (h5 : Cond.code y cc n r ∈ zT) : GoodIn zT (wsV own idx C y (Cond.code y cc n r :: zT)) := zGood1 h1 (zGood1 h2 (zGood1 h3 (zGood1 h4 (zGood h5))))
theorem zGoodS {own : String} {idx : Nat} {y : MethodName} {cc : ByteArray} {n : Nat} {r : Option FieldType} (h1 : Cond.methodLink own idx y ∈ zT) (h2 : Cond.static y ∈ zT) (h4 : Cond.initialized y.cls ∈ zT) (h5 : Cond.code y cc n r ∈ zT) : GoodIn zT (va_wsS own idx y (Cond.code y cc n r :: zT)) := zGood1 h1 (zGood1 h2 (zGood1 h4 (zGood h5)))
def zW (k : Nat) : Bool := [11, 14, 16, 18, 20, 22, 24, 26, 28, 31, 33].contains k
theorem zW_or {k : Nat} (h : zW k = true) : k = 11 ∨ k = 14 ∨ k = 16 ∨ k = 18 ∨ k = 20 ∨ k = 22 ∨ k = 24 ∨ k = 26 ∨ k = 28 ∨ k = 31 ∨ k = 33 := by
  simpa [zW] using h
theorem zW_lt {k : Nat} (h : zW k = true) : k < 54 ∧ k + 1 < 54 := by
  rcases zW_or h with rfl | rfl | rfl | rfl | rfl | rfl | rfl | rfl | rfl | rfl | rfl <;> decide
theorem zcf_W {k : Nat} (h : zW k = true) (G : zG) (f : Nat → Int32) : zcf G k f = .inr (3, [.ref (zr G (k + 1)), .int (f 1), .int (f 2), .int (f 3), .int (f 4), .int (f 5), .int (f 6)]) := by
  rcases zW_or h with rfl | rfl | rfl | rfl | rfl | rfl | rfl | rfl | rfl | rfl | rfl <;> rfl
theorem zcf_Ws {k : Nat} (h : zW k = true) (G : zG) (f : Nat → Int32) : zcf G (k + 1) f = .inl (G.2.1.1, 6, .inl f) := by
  rcases zW_or h with rfl | rfl | rfl | rfl | rfl | rfl | rfl | rfl | rfl | rfl | rfl <;> rfl
theorem zin_lt {i : Int32} {n : Nat} (h : zin i n = true) : i.toNatClampNeg < n := Nat.not_le.mp fun q => zin_in h (Or.inr q)
theorem zW_past {i : Int32} (h : zin i 8 = true) : zW (14 + 2 * i.toNatClampNeg) = true := by
  have h1 := zin_lt h
  generalize i.toNatClampNeg = j at h1
  match j, h1 with
  | 0, _ => rfl
  | 1, _ => rfl
  | 2, _ => rfl
  | 3, _ => rfl
  | 4, _ => rfl
  | 5, _ => rfl
  | 6, _ => rfl
  | 7, _ => rfl
theorem zW_kept {i : Int32} (h : zin i 2 = true) : zW (31 + 2 * i.toNatClampNeg) = true := by
  have h1 := zin_lt h
  generalize i.toNatClampNeg = j at h1
  match j, h1 with
  | 0, _ => rfl
  | 1, _ => rfl
section ZR
variable {A : Nat → Prop} {G : zG} {p : Program} {l : Launch} {e : Env} {R : Room} {s : State} {m : MethodId} {args : Array Value} {below : List Frame} {meth : Method} {c : Code} {H : Heap} {locs : List Loc} {cells slots : Nat} {Q : State → Prop}
variable {cc : ByteArray} {nL : Nat} {own : String} {pc : Nat} {ls : Array Slot} {rest st : List Value} {mem : zMem}
theorem z_get (C : zC A G p s m args c cc nL own) (Z : zH A G s mem H locs) {k ci : Nat} {fs : List Value} (hk : k < 54) (he : zcf G k (mem k) = .inr (ci, fs)) {Cn : String} {T : u_T} {N : Nat} (hc : vwCl[ci]? = some (Cn, T, N)) (hin : ∀ w ∈ u_ws Cn T N, w ∈ zT) (j : Nat) (hj : j < N) {index : Nat} (hl : Cond.fieldLink own index Cn (T j).2.1 (T j).2.2.1 ∈ zT) (h0 : (T j).1 = Cn) {v : Value} (hv : fs[j]? = some v) (hdg : decode cc pc = .ok (.getfield index, 3))
    (kk : W p l e R s m args below meth c H locs cells slots Q (F0 m (pc + 3) ls (v :: rest))) : W p l e R s m args below meth c H locs cells slots Q (F0 m pc ls (.ref (zr G k) :: rest)) :=
  va_get C.1.1 C.1.2.1 C.1.2.2.2.2 hin C.1.2.2.2.1 C.2.2.2.1 Z.1 k (WS_get hk he) hc j hj (C.1.2.2.2.2 _ hl) (fun x hx => by rw [h0] at hx; exact hx) hv hdg kk
theorem z_put (C : zC A G p s m args c cc nL own) (Z : zH A G s mem H locs) {k ci : Nat} {fs : List Value} (hk : k < 54) (he : zcf G k (mem k) = .inr (ci, fs)) {Cn : String} {T : u_T} {N : Nat} (hc : vwCl[ci]? = some (Cn, T, N)) (hin : ∀ w ∈ u_ws Cn T N, w ∈ zT) (ty0 : Nat → FieldType) (hty : ∀ k, k < N → parseFieldDescriptor (T k).2.2.1 = some (ty0 k)) (hnm : ∀ a, a < N → ∀ b, b < N → a ≠ b → (T a).2.1 ≠ (T b).2.1) (j : Nat) (hj : j < N) {index : Nat} (hl : Cond.fieldLink own index Cn (T j).2.1 (T j).2.2.1 ∈ zT) (h0 : (T j).1 = Cn) (hfin : (T j).2.2.2 = false) (hd : parseFieldDescriptor (T j).2.2.1 = some .int) {x : Int32} (hlen : j < fs.length) (hset : zcf G k (upd (mem k) j x) = .inr (ci, fs.set j (.int x))) (hdg : decode cc pc = .ok (.putfield index, 3))
    (kk : ∀ (H1 : Heap) (locs1 : List Loc), zH A G s (wr mem k j x) H1 locs1 → W p l e R s m args below meth c H1 locs1 cells slots Q (F0 m (pc + 3) ls rest)) : W p l e R s m args below meth c H locs cells slots Q (F0 m pc ls (.int x :: .ref (zr G k) :: rest)) := by
  refine va_put C.1.1 C.1.2.1 C.1.2.2.2.2 hin ty0 hty hnm C.1.2.2.2.1 C.2.2.2.1 Z.1 (zD C.2.1 C.2.2.1.1 mem) Z.2 k (WS_get hk he) hc j hj (C.1.2.2.2.2 _ hl) (fun x hx => by rw [h0] at hx; exact hx) hfin hd rfl rfl hlen hdg (fun H1 locs1 hP hD hS => ?_)
  refine kk H1 locs1 ⟨?_, hS⟩
  rw [← WS_set (mem := mem) (mem' := wr mem k j x) hk (e := .inr (ci, fs.set j (.int x))) (by simp only [wr, if_true]; exact hset) (fun i hi => by simp only [wr, if_neg hi])]
  exact hP
theorem z_iald (C : zC A G p s m args c cc nL own) (Z : zH A G s mem H locs) {k n : Nat} (hk : k < 54) (he : zcf G k (mem k) = .inl (G.2.1.1, n, .inl (mem k))) {i : Int32} (hi : zin i n = true) (hdg : decode cc pc = .ok (.iaload, 1))
    (kk : W p l e R s m args below meth c H locs cells slots Q (F0 m (pc + 1) ls (.int (mem k i.toNatClampNeg) :: rest))) : W p l e R s m args below meth c H locs cells slots Q (F0 m pc ls (.int i :: .ref (zr G k) :: rest)) :=
  va_iald C.1.1 C.1.2.1 C.2.2.2.1 Z.1 k 0 (WS_get hk he) rfl (zin_in hi) hdg kk
theorem z_bald (C : zC A G p s m args c cc nL own) (Z : zH A G s mem H locs) {k n : Nat} (hk : k < 54) (he : zcf G k (mem k) = .inl (G.2.1.2.1, n, .inl (mem k))) {i : Int32} (hi : zin i n = true) (hdg : decode cc pc = .ok (.baload, 1))
    (kk : W p l e R s m args below meth c H locs cells slots Q (F0 m (pc + 1) ls (.int (mem k i.toNatClampNeg) :: rest))) : W p l e R s m args below meth c H locs cells slots Q (F0 m pc ls (.int i :: .ref (zr G k) :: rest)) :=
  va_zald C.1.1 C.1.2.1 C.2.2.2.1 Z.1 k 1 (WS_get hk he) rfl (zin_in hi) hdg kk
theorem z_iast (C : zC A G p s m args c cc nL own) (Z : zH A G s mem H locs) {k n : Nat} (hk : k < 54) (he : ∀ f : Nat → Int32, zcf G k f = .inl (G.2.1.1, n, .inl f)) {i x : Int32} (hi : zin i n = true) (hdg : decode cc pc = .ok (.iastore, 1))
    (kk : ∀ (H1 : Heap) (locs1 : List Loc), zH A G s (wr mem k i.toNatClampNeg x) H1 locs1 → W p l e R s m args below meth c H1 locs1 cells slots Q (F0 m (pc + 1) ls rest)) : W p l e R s m args below meth c H locs cells slots Q (F0 m pc ls (.int x :: .int i :: .ref (zr G k) :: rest)) := by
  refine va_iast C.1.1 C.1.2.1 C.2.2.2.1 Z.1 (zD C.2.1 C.2.2.1.1 mem) Z.2 k 0 (WS_get hk (he _)) rfl (zin_in hi) hdg (fun H1 locs1 hP hD hS => ?_)
  refine kk H1 locs1 ⟨?_, hS⟩
  rw [← WS_set (mem := mem) (mem' := wr mem k i.toNatClampNeg x) hk (e := .inl (G.2.1.1, n, .inl (upd (mem k) i.toNatClampNeg x))) (by simp only [wr, if_true]; exact he _) (fun i hi => by simp only [wr, if_neg hi])]
  exact hP
theorem z_bast (C : zC A G p s m args c cc nL own) (Z : zH A G s mem H locs) {k n : Nat} (hk : k < 54) (he : ∀ f : Nat → Int32, zcf G k f = .inl (G.2.1.2.1, n, .inl f)) {i x : Int32} (hi : zin i n = true) (hdg : decode cc pc = .ok (.bastore, 1))
    (kk : ∀ (H1 : Heap) (locs1 : List Loc), zH A G s (wr mem k i.toNatClampNeg (vp_nar .boolean x)) H1 locs1 → W p l e R s m args below meth c H1 locs1 cells slots Q (F0 m (pc + 1) ls rest)) : W p l e R s m args below meth c H locs cells slots Q (F0 m pc ls (.int x :: .int i :: .ref (zr G k) :: rest)) := by
  refine va_zast C.1.1 C.1.2.1 C.2.2.2.1 Z.1 (zD C.2.1 C.2.2.1.1 mem) Z.2 k 1 (WS_get hk (he _)) rfl (zin_in hi) hdg (fun H1 locs1 hP hD hS => ?_)
  refine kk H1 locs1 ⟨?_, hS⟩
  rw [← WS_set (mem := mem) (mem' := wr mem k i.toNatClampNeg (vp_nar .boolean x)) hk (e := .inl (G.2.1.2.1, n, .inl (upd (mem k) i.toNatClampNeg (vp_nar .boolean x)))) (by simp only [wr, if_true]; exact he _) (fun i hi => by simp only [wr, if_neg hi])]
  exact hP
theorem z_past (C : zC A G p s m args c cc nL own) (Z : zH A G s mem H locs) {i : Int32} (hi : zin i 8 = true) (hdg : decode cc pc = .ok (.aaload, 1))
    (kk : W p l e R s m args below meth c H locs cells slots Q (F0 m (pc + 1) ls (.ref (zr G (14 + 2 * i.toNatClampNeg)) :: rest))) : W p l e R s m args below meth c H locs cells slots Q (F0 m pc ls (.int i :: .ref (zr G 13) :: rest)) :=
  va_aldq C.1.1 C.1.2.1 C.2.2.2.1 Z.1 13 2 (WS_get (by decide) rfl) rfl (zin_in hi) hdg kk
theorem z_kept (C : zC A G p s m args c cc nL own) (Z : zH A G s mem H locs) {i : Int32} (hi : zin i 2 = true) (hdg : decode cc pc = .ok (.aaload, 1))
    (kk : W p l e R s m args below meth c H locs cells slots Q (F0 m (pc + 1) ls (.ref (zr G (31 + 2 * i.toNatClampNeg)) :: rest))) : W p l e R s m args below meth c H locs cells slots Q (F0 m pc ls (.int i :: .ref (zr G 30) :: rest)) :=
  va_aldq C.1.1 C.1.2.1 C.2.2.2.1 Z.1 30 2 (WS_get (by decide) rfl) rfl (zin_in hi) hdg kk
theorem z_iret {v : Int32} (C : zC (zAd G) G p s m args c cc nL own) (Z : zH (zAd G) G s mem H locs) (hr : meth.sig.returnType = some .int) (hlk : meth.locks = false) (hdg : decode cc pc = .ok (.ireturn, 1)) : W p l e R s m args below meth c H locs 0 0 (MQ below (zQi G v mem) args s 0 0 (zAd G)) (F0 m pc ls [.int v]) :=
  W.iret C.1.1 C.1.2.1 hr (fun t ht hW => ⟨⟨v, (), rfl, rfl, by show va_P _ _ _ _; rw [ht]; exact Z.1⟩, Z.2.F ht⟩) Z.2.2.2 hdg hlk
theorem z_zret {v : Int32} (C : zC (zAd G) G p s m args c cc nL own) (Z : zH (zAd G) G s mem H locs) (hr : meth.sig.returnType = some .boolean) (hlk : meth.locks = false) (hv : zbo v = true) (hdg : decode cc pc = .ok (.ireturn, 1)) : W p l e R s m args below meth c H locs 0 0 (MQ below (zQi G v mem) args s 0 0 (zAd G)) (F0 m pc ls [.int v]) :=
  W.zret C.1.1 C.1.2.1 hr (zbo_nar hv) (fun t ht hW => ⟨⟨v, (), rfl, rfl, by show va_P _ _ _ _; rw [ht]; exact Z.1⟩, Z.2.F ht⟩) Z.2.2.2 hdg hlk
theorem z_vret (C : zC (zAd G) G p s m args c cc nL own) (Z : zH (zAd G) G s mem H locs) (hr : meth.sig.returnType = none) (hlk : meth.locks = false) (hdg : decode cc pc = .ok (.return_, 1)) : W p l e R s m args below meth c H locs 0 0 (MQ below (zQv G mem) args s 0 0 (zAd G)) (F0 m pc ls []) :=
  W.vret C.1.1 C.1.2.1 hr (fun t ht hW => ⟨⟨(), rfl, trivial, by show va_P _ _ _ _; rw [ht]; exact Z.1⟩, Z.2.F ht⟩) Z.2.2.2 hdg hlk
theorem z_sret {i : Nat} {rt : String} (C : zC (zAd G) G p s m args c cc nL own) (Z : zH (zAd G) G s mem H locs) (hr : meth.sig.returnType = some (.object rt)) (hlk : meth.locks = false) (hdg : decode cc pc = .ok (.areturn, 1)) : W p l e R s m args below meth c H locs 0 0 (MQ below (zQs G i mem) args s 0 0 (zAd G)) (F0 m pc ls [.ref (zk G i)]) :=
  W.aret C.1.1 C.1.2.1 hr (Or.inl ⟨_, rfl⟩) (Or.inr ⟨_, rfl⟩) (fun t ht hW => ⟨⟨(), zk G i, rfl, trivial, rfl, by show va_P _ _ _ _; rw [ht]; exact Z.1⟩, Z.2.F ht⟩) Z.2.2.2 hdg hlk
section ZCALL
variable {y : MethodName} {bytes : ByteArray} {maxL : Nat} {ret : Option FieldType} {fr lo index : Nat} {k ci : Nat} {fs : List Value} {Cn : String} {T : u_T} {N n : Nat} {As : List Value} {r : Int32} {mem' : zMem}
theorem zCall_pre (C : zC A G p s m args c cc nL own) (Z : zH A G s mem H locs) (b : Value) : ∀ U : State, U.heap = H → s.WarmedH U.vm → va_Pc (b :: As) (zPre G mem) (b :: As).toArray U := fun U hU hW => ⟨rfl, by rw [hU]; exact Z.1, by rw [hU]; exact C.now Z hW⟩
theorem zCall_preS (C : zC A G p s m args c cc nL own) (Z : zH A G s mem H locs) : ∀ U : State, U.heap = H → s.WarmedH U.vm → va_Pc As (zPre G mem) As.toArray U := fun U hU hW => ⟨rfl, by rw [hU]; exact Z.1, by rw [hU]; exact C.now Z hW⟩
theorem zAft {t : State} {H1 : Heap} {locs1 : List Loc} (hB : zPost G mem' t) (ht : t.heap = H1) (hS : va_S A s.heap H1 locs1) : zH A G s mem' H1 locs1 := by
  have h : va_P G.1 vwCl (WS G mem') t.heap := hB
  rw [ht] at h
  exact ⟨h, hS⟩
theorem z_callVi (C : zC A G p s m args c cc nL own) (Z : zH A G s mem H locs) (hM : zM l G y bytes maxL ret fr lo (.ref (zr G k) :: As) mem (zQi G r mem')) (cw : CallW R s args own Cn index y bytes maxL ret (Cond.code y bytes maxL ret :: zT) ({ frames := fr, cells := 0, slots := 0, locals := lo } : Room) 0 0 n) (hk : k < 54) (he : zcf G k (mem k) = .inr (ci, fs)) (hc : vwCl[ci]? = some (Cn, T, N)) (hn : As.length = n) (hls : ls.size = nL) (hst : st = As.reverse ++ .ref (zr G k) :: rest) (hroom : (rest.map fun v => v.category).sum ≤ 8) (hf : cells ≤ R.cells ∧ slots ≤ R.slots) (hdg : decode cc pc = .ok (.invokevirtual index, 3))
    (kk : ∀ (H1 : Heap) (locs1 : List Loc), zH A G s mem' H1 locs1 → W p l e R s m args below meth c H1 locs1 cells slots Q (F0 m (pc + 3) ls (.int r :: rest))) : W p l e R s m args below meth c H locs cells slots Q (F0 m pc ls st) := by
  refine va_calli (va_runV (As := As) (rest := rest) C.1 hM cw ⟨zBlind, va_recv C.2.2.2.1 Z.1 hc (WS_get hk he), zCall_pre C Z _⟩ rfl hn hls hst (lv_room hroom) hdg ⟨hf.1, hf.2⟩) Z.2 (fun q _ h => C.2.2.1.1 q h) C.2.2.1.1 (fun r' u t H1 locs1 ht hvm hw hB hz1 hk1 hS => ?_)
  subst hw
  exact kk H1 locs1 (zAft hB ht hS)
theorem z_callVv (C : zC A G p s m args c cc nL own) (Z : zH A G s mem H locs) (hM : zM l G y bytes maxL ret fr lo (.ref (zr G k) :: As) mem (zQv G mem')) (cw : CallW R s args own Cn index y bytes maxL ret (Cond.code y bytes maxL ret :: zT) ({ frames := fr, cells := 0, slots := 0, locals := lo } : Room) 0 0 n) (hk : k < 54) (he : zcf G k (mem k) = .inr (ci, fs)) (hc : vwCl[ci]? = some (Cn, T, N)) (hn : As.length = n) (hls : ls.size = nL) (hst : st = As.reverse ++ .ref (zr G k) :: rest) (hroom : (rest.map fun v => v.category).sum ≤ 8) (hf : cells ≤ R.cells ∧ slots ≤ R.slots) (hdg : decode cc pc = .ok (.invokevirtual index, 3))
    (kk : ∀ (H1 : Heap) (locs1 : List Loc), zH A G s mem' H1 locs1 → W p l e R s m args below meth c H1 locs1 cells slots Q (F0 m (pc + 3) ls rest)) : W p l e R s m args below meth c H locs cells slots Q (F0 m pc ls st) := by
  refine va_callv (va_runV (As := As) (rest := rest) C.1 hM cw ⟨zBlind, va_recv C.2.2.2.1 Z.1 hc (WS_get hk he), zCall_pre C Z _⟩ rfl hn hls hst (lv_room hroom) hdg ⟨hf.1, hf.2⟩) Z.2 (fun q _ h => C.2.2.1.1 q h) C.2.2.1.1 (fun u t H1 locs1 ht hvm hw hB hz1 hk1 hS => ?_)
  exact kk H1 locs1 (zAft hB ht hS)
theorem z_callSi (C : zC A G p s m args c cc nL own) (Z : zH A G s mem H locs) (hM : zM l G y bytes maxL ret fr lo As mem (zQi G r mem')) (cw : CallB R s args own index y bytes maxL ret (Cond.code y bytes maxL ret :: zT) ({ frames := fr, cells := 0, slots := 0, locals := lo } : Room) 0 0 n ∧ (Cond.static y).before args s = true) (hn : As.length = n) (hls : ls.size = nL) (hst : st = As.reverse ++ rest) (hroom : (rest.map fun v => v.category).sum ≤ 8) (hf : cells ≤ R.cells ∧ slots ≤ R.slots) (hdg : decode cc pc = .ok (.invokestatic index, 3))
    (kk : ∀ (H1 : Heap) (locs1 : List Loc), zH A G s mem' H1 locs1 → W p l e R s m args below meth c H1 locs1 cells slots Q (F0 m (pc + 3) ls (.int r :: rest))) : W p l e R s m args below meth c H locs cells slots Q (F0 m pc ls st) := by
  refine va_calli (va_runS (As := As) (rest := rest) C.1 hM cw ⟨zBlind, zCall_preS C Z⟩ rfl hn hls hst (lv_room hroom) hdg ⟨hf.1, hf.2⟩) Z.2 (fun q _ h => C.2.2.1.1 q h) C.2.2.1.1 (fun r' u t H1 locs1 ht hvm hw hB hz1 hk1 hS => ?_)
  subst hw
  exact kk H1 locs1 (zAft hB ht hS)
theorem z_callSv (C : zC A G p s m args c cc nL own) (Z : zH A G s mem H locs) (hM : zM l G y bytes maxL ret fr lo As mem (zQv G mem')) (cw : CallB R s args own index y bytes maxL ret (Cond.code y bytes maxL ret :: zT) ({ frames := fr, cells := 0, slots := 0, locals := lo } : Room) 0 0 n ∧ (Cond.static y).before args s = true) (hn : As.length = n) (hls : ls.size = nL) (hst : st = As.reverse ++ rest) (hroom : (rest.map fun v => v.category).sum ≤ 8) (hf : cells ≤ R.cells ∧ slots ≤ R.slots) (hdg : decode cc pc = .ok (.invokestatic index, 3))
    (kk : ∀ (H1 : Heap) (locs1 : List Loc), zH A G s mem' H1 locs1 → W p l e R s m args below meth c H1 locs1 cells slots Q (F0 m (pc + 3) ls rest)) : W p l e R s m args below meth c H locs cells slots Q (F0 m pc ls st) := by
  refine va_callv (va_runS (As := As) (rest := rest) C.1 hM cw ⟨zBlind, zCall_preS C Z⟩ rfl hn hls hst (lv_room hroom) hdg ⟨hf.1, hf.2⟩) Z.2 (fun q _ h => C.2.2.1.1 q h) C.2.2.1.1 (fun u t H1 locs1 ht hvm hw hB hz1 hk1 hS => ?_)
  exact kk H1 locs1 (zAft hB ht hS)
theorem z_callSs {i : Nat} (C : zC A G p s m args c cc nL own) (Z : zH A G s mem H locs) (hM : zM l G y bytes maxL ret fr lo As mem (zQs G i mem')) (cw : CallB R s args own index y bytes maxL ret (Cond.code y bytes maxL ret :: zT) ({ frames := fr, cells := 0, slots := 0, locals := lo } : Room) 0 0 n ∧ (Cond.static y).before args s = true) (hn : As.length = n) (hls : ls.size = nL) (hst : st = As.reverse ++ rest) (hroom : (rest.map fun v => v.category).sum ≤ 8) (hf : cells ≤ R.cells ∧ slots ≤ R.slots) (hdg : decode cc pc = .ok (.invokestatic index, 3))
    (kk : ∀ (H1 : Heap) (locs1 : List Loc), zH A G s mem' H1 locs1 → W p l e R s m args below meth c H1 locs1 cells slots Q (F0 m (pc + 3) ls (.ref (zk G i) :: rest))) : W p l e R s m args below meth c H locs cells slots Q (F0 m pc ls st) := by
  refine va_callr (va_runS (As := As) (rest := rest) C.1 hM cw ⟨zBlind, zCall_preS C Z⟩ rfl hn hls hst (lv_room hroom) hdg ⟨hf.1, hf.2⟩) Z.2 (fun q _ h => C.2.2.1.1 q h) C.2.2.1.1 (fun u a t H1 locs1 ht hvm hw hB hz1 hk1 hS => ?_)
  obtain ⟨rfl, hB⟩ := hB
  exact kk H1 locs1 (zAft hB ht hS)
theorem z_callNi {host : String} (C : zC A G p s m args c cc nL own) (Z : zH A G s mem H locs) (hM : zM l G y bytes maxL ret fr lo As mem (zQi G r mem')) (cw : va_CN R s args own index y host bytes maxL ret (Cond.code y bytes maxL ret :: zT) ({ frames := fr, cells := 0, slots := 0, locals := lo } : Room) 0 0 n ∧ (Cond.static y).before args s = true ∧ True) (hn : As.length = n) (hls : ls.size = nL) (hst : st = As.reverse ++ rest) (hroom : (rest.map fun v => v.category).sum ≤ 8) (hf : cells ≤ R.cells ∧ slots ≤ R.slots) (hdg : decode cc pc = .ok (.invokestatic index, 3))
    (kk : ∀ (H1 : Heap) (locs1 : List Loc), zH A G s mem' H1 locs1 → W p l e R s m args below meth c H1 locs1 cells slots Q (F0 m (pc + 3) ls (.int r :: rest))) : W p l e R s m args below meth c H locs cells slots Q (F0 m pc ls st) := by
  refine va_calli (va_runSN (As := As) (rest := rest) C.1 hM cw ⟨zBlind, zCall_preS C Z⟩ rfl hn hls hst (lv_room hroom) hdg ⟨hf.1, hf.2⟩) Z.2 (fun q _ h => C.2.2.1.1 q h) C.2.2.1.1 (fun r' u t H1 locs1 ht hvm hw hB hz1 hk1 hS => ?_)
  subst hw
  exact kk H1 locs1 (zAft hB ht hS)
theorem z_callTi {i : Nat} (hi : i < 9) (C : zC A G p s m args c cc nL own) (Z : zH A G s mem H locs) (hM : zM l G y bytes maxL ret fr lo (.ref (zk G i) :: As) mem (zQi G r mem')) (cw : CallW R s args own "java/lang/String" index y bytes maxL ret (Cond.code y bytes maxL ret :: zT) ({ frames := fr, cells := 0, slots := 0, locals := lo } : Room) 0 0 n) (hn : As.length = n) (hls : ls.size = nL) (hst : st = As.reverse ++ .ref (zk G i) :: rest) (hroom : (rest.map fun v => v.category).sum ≤ 8) (hf : cells ≤ R.cells ∧ slots ≤ R.slots) (hdg : decode cc pc = .ok (.invokevirtual index, 3))
    (kk : ∀ (H1 : Heap) (locs1 : List Loc), zH A G s mem' H1 locs1 → W p l e R s m args below meth c H1 locs1 cells slots Q (F0 m (pc + 3) ls (.int r :: rest))) : W p l e R s m args below meth c H locs cells slots Q (F0 m pc ls st) := by
  have hv : ∃ cell : Cell, H[zk G i]? = some cell ∧ cell.vm.isStatics = false ∧ s.vm.findClass "java/lang/String" = some cell.cls := by
    obtain ⟨cell, h1, h2, h3, -⟩ := ((C.now Z (State.WarmedH.refl s)).2.1.1 i hi).1
    exact ⟨cell, h1, h2, h3⟩
  refine va_calli (va_runV (As := As) (rest := rest) C.1 hM cw ⟨zBlind, hv, zCall_pre C Z _⟩ rfl hn hls hst (lv_room hroom) hdg ⟨hf.1, hf.2⟩) Z.2 (fun q _ h => C.2.2.1.1 q h) C.2.2.1.1 (fun r' u t H1 locs1 ht hvm hw hB hz1 hk1 hS => ?_)
  subst hw
  exact kk H1 locs1 (zAft hB ht hS)
end ZCALL
theorem z_cpy6 (C : zC A G p s m args c cc nL own) (Z : zH A G s mem H locs) {a b index : Nat} (hls : ls.size = nL) (ha : a < 54) (hb : b < 54) (hea : ∀ f : Nat → Int32, zcf G a f = .inl (G.2.1.1, 6, .inl f)) (heb : ∀ f : Nat → Int32, zcf G b f = .inl (G.2.1.1, 6, .inl f)) (hlink : Cond.methodLink own index arraycopyName ∈ zT) (hnat : Cond.native arraycopyName ∈ zT) (hstat : Cond.static arraycopyName ∈ zT) (hini : Cond.initialized "java/lang/System" ∈ zT) (hframes : 1 ≤ R.frames) (hlocals : (rest.map fun v => v.category).sum + (nativeFrameWords "java/lang/System" "arraycopy" 5 + 11) ≤ R.locals) (hdg : decode cc pc = .ok (.invokestatic index, 3))
    (kk : ∀ (H1 : Heap) (locs1 : List Loc), zH A G s (cpy6 mem a b) H1 locs1 → W p l e R s m args below meth c H1 locs1 cells slots Q (F0 m (pc + 3) ls rest)) : W p l e R s m args below meth c H locs cells slots Q (F0 m pc ls (.int 6 :: .int 0 :: .ref (zr G b) :: .int 0 :: .ref (zr G a) :: rest)) := by
  refine va_copyi (ty := .int) C.1.1 C.1.2.1 (C.1.2.2.1.trans hls.symm) C.1.2.2.2.1 (C.1.2.2.2.2 _ hlink) (C.1.2.2.2.2 _ hnat) (C.1.2.2.2.2 _ hstat) (C.1.2.2.2.2 _ hini) C.2.2.2.1 Z.1 (zD C.2.1 C.2.2.1.1 mem) Z.2 a b 0 0 (WS_get ha (hea _)) (WS_get hb (heb _)) rfl rfl rfl (by decide) (by decide) (by decide) (by decide) (by decide) (fun _ _ => rfl) hframes hlocals hdg (fun H1 locs1 hP hD hS => ?_)
  refine kk H1 locs1 ⟨?_, hS⟩
  rw [← WS_set (mem := mem) (mem' := cpy6 mem a b) hb (e := .inl (G.2.1.1, 6, .inl (va_cpy (mem a) (mem b) 0 0 6))) (by simp only [cpy6, if_true]; exact heb _) (fun i hi => by simp only [cpy6, if_neg hi])]
  exact hP
end ZR

