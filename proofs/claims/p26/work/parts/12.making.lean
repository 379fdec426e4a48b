/-! MAKING: cells come one behind another, from the first free address on; a world is a function of the cells' numbers, up to how many there are -/
def PW (G : zG) (cf : Nat → va_E) (n : Nat) : va_W := (List.range n).map (fun k => (zr G k, cf k))
def stc (cf : Nat → va_E) (k : Nat) (e : va_E) : Nat → va_E := fun j => if j = k then e else cf j
theorem stc_self {cf : Nat → va_E} {k : Nat} {e : va_E} : stc cf k e k = e := if_pos rfl
theorem stc_ne {cf : Nat → va_E} {k j : Nat} {e : va_E} (h : j ≠ k) : stc cf k e j = cf j := if_neg h
def zSeq (G : zG) : Prop := ∀ k : Nat, zr G k = zr G 0 + k
theorem zSeq.ok {G : zG} (h : zSeq G) : zOK G := fun i j _ _ e => by rw [h i, h j] at e; omega
def zA1 (G : zG) : Nat → Prop := fun q => zr G 0 ≤ q
theorem PW_get {G : zG} {cf : Nat → va_E} {n k : Nat} {e : va_E} (hk : k < n) (he : cf k = e) : (PW G cf n)[k]? = some (zr G k, e) := by
  subst he
  simp [PW, hk]
theorem PW_inv {G : zG} {cf : Nat → va_E} {n k : Nat} {q : Nat × va_E} (h : (PW G cf n)[k]? = some q) : k < n ∧ q = (zr G k, cf k) := by
  by_cases hk : k < n
  · rw [PW_get hk rfl] at h
    exact ⟨hk, (Option.some.inj h).symm⟩
  · rw [List.getElem?_eq_none (by simp [PW]; omega)] at h
    cases h
theorem PW_set {G : zG} {cf : Nat → va_E} {n k : Nat} {e : va_E} : (PW G cf n).set k (zr G k, e) = PW G (stc cf k e) n := by
  apply List.ext_getElem?
  intro j
  by_cases hj : j < n
  · by_cases hjk : j = k
    · subst hjk
      rw [List.getElem?_set_self (by simp [PW, hj]), PW_get (cf := stc cf j e) hj stc_self]
    · rw [List.getElem?_set_ne (Ne.symm hjk), PW_get hj rfl, PW_get (cf := stc cf k e) hj (stc_ne hjk)]
  · rw [List.getElem?_eq_none (by simp [PW]; omega), List.getElem?_eq_none (by simp [PW]; omega)]
theorem PW_D {G : zG} (hG : zSeq G) {cf : Nat → va_E} {n : Nat} : va_D (zA1 G) (PW G cf n) := by
  refine ⟨fun i j p q hi hj hpq => ?_, fun k q hk => ?_⟩
  · obtain ⟨-, rfl⟩ := PW_inv hi
    obtain ⟨-, rfl⟩ := PW_inv hj
    have h : zr G i = zr G j := hpq
    rw [hG i, hG j] at h
    omega
  · obtain ⟨-, rfl⟩ := PW_inv hk
    show zr G 0 ≤ zr G k
    rw [hG k]
    omega
def zPC (G : zG) (cf : Nat → va_E) (n : Nat) (H : Heap) : Prop := H.size = zr G 0 + n ∧ va_P G.1 vwCl (PW G cf n) H
def zPreC (G : zG) (cf : Nat → va_E) (n : Nat) (U : State) : Prop := zPC G cf n U.heap ∧ zSt G U U.heap
theorem zBlindC {G : zG} {cf : Nat → va_E} {n : Nat} {As : List Value} : FrameBlind (va_Pc As (zPreC G cf n)) := fun a U g mk q => ⟨q.1, q.2.1, zSt.same (U := U.calling g mk a) rfl q.2.2⟩
def zQC (G : zG) (cf : Nat → va_E) (n : Nat) : Array Value → State → Outcome → State → Prop := va_Qv (fun (_ : Unit) => True) (fun _ t => zPC G cf n t.heap) (zA1 G)
def zQCr (G : zG) (b : Nat) (cf : Nat → va_E) (n : Nat) : Array Value → State → Outcome → State → Prop := va_Qr (fun (_ : Unit) => True) (fun _ a t => a = zr G b ∧ zPC G cf n t.heap) (zA1 G)
def zMC (l : Launch) (G : zG) (y : MethodName) (cc : ByteArray) (nL : Nat) (ret : Option FieldType) (fr lo mc ms : Nat) (As : List Value) (cf : Nat → va_E) (n : Nat) (Qc : Array Value → State → Outcome → State → Prop) : Prop :=
  Met l y (Cond.code y cc nL ret :: zT) ({ frames := fr, cells := mc, slots := ms, locals := lo } : Room) (va_Pc As (zPreC G cf n)) Qc mc ms (zA1 G)
def zCC (G : zG) (p : Program) (s : State) (m : MethodId) (args : Array Value) (c : Code) (cc : ByteArray) (nL : Nat) (own : String) : Prop :=
  CallFix p m c cc nL s args zT own ∧ zSeq G ∧ (zr G 0 ≤ s.heap.size ∧ s.heap.size ≤ zr G 0 + 54) ∧ zSt G s s.heap
def zHC (G : zG) (s : State) (cf : Nat → va_E) (n : Nat) (H : Heap) (locs : List Loc) : Prop := zPC G cf n H ∧ va_S (zA1 G) s.heap H locs
theorem zA1_of {G : zG} (hG : zSeq G) {sz a : Nat} (h2 : sz ≤ zr G 0 + 54) (h3 : a < sz) (h : zA1 G a) : zAd G a := by
  have h' : zr G 0 ≤ a := h
  exact ⟨a - zr G 0, by omega, by rw [hG (a - zr G 0)]; omega⟩
theorem zCC.now {G : zG} {p : Program} {s : State} {m : MethodId} {args : Array Value} {c : Code} {cc : ByteArray} {nL : Nat} {own : String} (C : zCC G p s m args c cc nL own) {cf : Nat → va_E} {n : Nat} {H : Heap} {locs : List Loc} (Z : zHC G s cf n H locs) {U : State} (hW : s.WarmedH U.vm) : zSt G U H :=
  C.2.2.2.go (fun a h1 h2 => Z.2.2.1 a h1 (fun h => h2 (zA1_of C.2.1 C.2.2.1.2 h1 h))) hW
theorem zStartC {l : Launch} {G : zG} {y : MethodName} {cc : ByteArray} {nL : Nat} {ret : Option FieldType} {fr lo mc ms : Nat} {As : List Value} {cf : Nat → va_E} {n : Nat} {Qc : Array Value → State → Outcome → State → Prop} (hG : zSeq G) (hn : n ≤ 54) (hy : plainName y.cls = true) (hlen : (lg_sl As).length ≤ nL)
    (body : ∀ (p : Program) (e : Env) (s : State) (m : MethodId) (below : List Frame) (meth : Method) (c : Code), zCC G p s m As.toArray c cc nL y.cls → (meth.sig.returnType = ret ∧ meth.locks = false ∧ meth.name = y.name ∧ s.heap.size = zr G 0 + n) → ∀ ls : Array Slot, lv_has ls nL (lv_args 0 As) → zHC G s cf n s.heap [] → W p l e ({ frames := fr, cells := mc, slots := ms, locals := lo } : Room) s m As.toArray below meth c s.heap [] 0 0 (MQ below Qc As.toArray s mc ms (zA1 G)) (F0 m 0 ls [])) :
    zMC l G y cc nL ret fr lo mc ms As cf n Qc := by
  refine Met.ofW (cc := cc) (maxL := nL) (ret := ret) hy rfl ?_
  intro p e s m args below meth c s₁ B hml hv
  obtain ⟨rfl, hP, hS⟩ := hv
  have hts := atoms_spec (ws := Cond.code y cc nL ret :: zT) B.pre
  have hown : s.vm.findClass y.cls = some m.cls := findClass_of_methodNamed B.named
  rw [lg_entry_eq]
  refine body p e s m below meth c ⟨⟨B.exec, B.bytes, hml, hown, fun w hw => hts w (List.mem_cons_of_mem _ hw)⟩, hG, ⟨?_, ?_⟩, hS⟩ ⟨B.returns, B.notSynchronized, (name_of_methodNamed B.named B.method).1, hP.1⟩ _ (lv_entry As hlen) ⟨hP, va_S.rf⟩
  · rw [hP.1]; omega
  · rw [hP.1]; omega
theorem zHC.push {G : zG} {s : State} {cf : Nat → va_E} {n : Nat} {H H1 : Heap} {locs : List Loc} (Z : zHC G s cf n H locs) (hG : zSeq G) {e : va_E} (z1 : H1.size = H.size + 1) (o1 : ∀ q : Nat, q < H.size → H1[q]? = H[q]?) (he : va_at G.1 vwCl (zr G n, e) H1) : zHC G s (stc cf n e) (n + 1) H1 locs := by
  refine ⟨⟨by rw [z1, Z.1.1]; omega, fun k q hk => ?_⟩, ⟨by rw [z1]; exact Nat.le_succ_of_le Z.2.1, fun q h1 h2 => (o1 q (Nat.lt_of_lt_of_le h1 Z.2.1)).trans (Z.2.2.1 q h1 h2), Z.2.2.2⟩⟩
  obtain ⟨hk, rfl⟩ := PW_inv hk
  by_cases hkn : k = n
  · subst hkn
    rw [stc_self]
    exact he
  · rw [stc_ne hkn]
    have hold := Z.1.2 k _ (PW_get (show k < n by omega) rfl)
    exact hold.kept (o1 _ hold.lt)
theorem zHC.put_unused {G : zG} {s : State} {cf : Nat → va_E} {n : Nat} {H H1 : Heap} {locs locs1 : List Loc} {k : Nat} {e : va_E} (Z : zHC G s cf n H locs) (hz : H1.size = H.size) (hP : va_P G.1 vwCl ((PW G cf n).set k (zr G k, e)) H1) (hS : va_S (zA1 G) s.heap H1 locs1) : zHC G s (stc cf k e) n H1 locs1 := by
  rw [PW_set] at hP
  exact ⟨⟨by rw [hz]; exact Z.1.1, hP⟩, hS⟩
section ZCR
variable {G : zG} {p : Program} {l : Launch} {e : Env} {R : Room} {s : State} {m : MethodId} {args : Array Value} {below : List Frame} {meth : Method} {c : Code} {H : Heap} {locs : List Loc} {cells slots : Nat} {Q : State → Prop}
variable {cc : ByteArray} {nL : Nat} {own : String} {pc : Nat} {ls : Array Slot} {rest st : List Value} {cf : Nat → va_E} {n : Nat}
theorem c_hA (C : zCC G p s m args c cc nL own) : ∀ q : Nat, s.heap.size ≤ q → zA1 G q := fun q h => Nat.le_trans C.2.2.1.1 h
theorem c_new (C : zCC G p s m args c cc nL own) (Z : zHC G s cf n H locs) {ci index : Nat} {Cn : String} {T : u_T} {N : Nat} (hin : ∀ w ∈ u_ws Cn T N, w ∈ zT) (ty : Nat → FieldType) (hty : ∀ k, k < N → parseFieldDescriptor (T k).2.2.1 = some (ty k)) (hcl : Cond.classLink own index Cn ∈ zT) (hinst : Cond.instantiable Cn N ∈ zT) (hini : Cond.initialized Cn ∈ zT) (hc : vwCl[ci]? = some (Cn, T, N)) {fs : List Value} (hfs : ∀ j, j < N → defaultValue (ty j) = vp_V fs j) (hcells : cells + 1 ≤ R.cells) (hslots : slots + N ≤ R.slots) (hdg : decode cc pc = .ok (.new index, 3))
    (kk : ∀ H1 : Heap, zHC G s (stc cf n (.inr (ci, fs))) (n + 1) H1 locs → W p l e R s m args below meth c H1 locs (cells + 1) (slots + N) Q (F0 m (pc + 3) ls (.ref (zr G n) :: rest))) : W p l e R s m args below meth c H locs cells slots Q (F0 m pc ls rest) := by
  have hKn := C.2.2.2.1.1 ci _ hc
  have hh : H.size = zr G n := by rw [Z.1.1, C.2.1 n]
  refine W.newcK C.1.1 C.1.2.1 C.1.2.2.2.1 (C.1.2.2.2.2 _ hcl) (C.1.2.2.2.2 _ hinst) (C.1.2.2.2.2 _ hini) rfl hdg hcells hslots hKn.2.1 hh fun H1 kC hkC e1 z1 o1 => ?_
  refine kk H1 (Z.push C.2.1 (by rw [z1, hh]) (fun q hq => o1 q (by rw [← hh]; exact hq)) ?_)
  exact ⟨_, hc, (u_born ty C.1.2.2.2.2 hin hKn hkC e1 hty).to hfs⟩
theorem c_newa (C : zCC G p s m args c cc nL own) (Z : zHC G s cf n H locs) {atype : ArrayType} {ty : FieldType} (hty : newarray.typeOf atype = ty) (t0 : Nat) {cA : ClassId} (ht : (zTy G)[t0]? = some (cA, ty)) (hprim : va_RA s cA ty → s.vm.findClass ("[" ++ ty.toString) = some cA) (hdef : defaultValue ty = .int 0) (harr : Cond.arrayClass ty ∈ zT) {x : Int32} {N' : Nat} (hn : ¬ x < 0) (hN : x.toNatClampNeg = N') (hbytes : N' * componentBytes ty ≤ 536870912) (hcells : cells + 1 ≤ R.cells) (hslots : slots + N' ≤ R.slots) (hdg : decode cc pc = .ok (.newarray atype, 2))
    (kk : ∀ H1 : Heap, zHC G s (stc cf n (.inl (cA, N', .inl (fun _ => 0)))) (n + 1) H1 locs → W p l e R s m args below meth c H1 locs (cells + 1) (slots + N') Q (F0 m (pc + 2) ls (.ref (zr G n) :: rest))) : W p l e R s m args below meth c H locs cells slots Q (F0 m pc ls (.int x :: rest)) := by
  subst hty
  have hh : H.size = zr G n := by rw [Z.1.1, C.2.1 n]
  refine va_newaK C.1.1 C.1.2.1 (C.1.2.2.2.2 _ harr) rfl hdg rfl hn hN hbytes hcells hslots hh fun H1 cB e1 z1 o1 hAr hNm => ?_
  have hfc := hprim (C.2.2.2.1.2 t0 _ ht).2
  have hcB : cB = cA := Option.some.inj (hNm.symm.trans hfc)
  subst hcB
  refine kk H1 (Z.push C.2.1 (by rw [z1, hh]) (fun q hq => o1 q (by rw [← hh]; exact hq)) ?_)
  show H1[zr G n]? = some (vp_cell _ _)
  rw [e1, hdef, vp_cell_i]
theorem c_newq (C : zCC G p s m args c cc nL own) (Z : zHC G s cf n H locs) {index : Nat} (hclink : Cond.classLink own index RX3 ∈ zT) (hover : va_AO RX3 s) {x : Int32} {N' : Nat} (hn : ¬ x < 0) (hN : x.toNatClampNeg = N') (hbytes : N' * 4 ≤ 536870912) (hcells : cells + 1 ≤ R.cells) (hslots : slots + N' ≤ R.slots) (hdg : decode cc pc = .ok (.anewarray index, 3))
    (kk : ∀ H1 : Heap, zHC G s (stc cf n (.inl (G.2.1.2.2, N', .inr (.inr (.inr (.inr (fun _ => none))))))) (n + 1) H1 locs → W p l e R s m args below meth c H1 locs (cells + 1) (slots + N') Q (F0 m (pc + 3) ls (.ref (zr G n) :: rest))) : W p l e R s m args below meth c H locs cells slots Q (F0 m pc ls (.int x :: rest)) := by
  subst hN
  have hh : H.size = zr G n := by rw [Z.1.1, C.2.1 n]
  refine W.anew C.1.1 C.1.2.1 C.1.2.2.2.1 (C.1.2.2.2.2 _ hclink) (va_AO.use hover) rfl hdg rfl hn hbytes hcells hslots fun cB kA comp f1 f2 f3 f4 => ?_
  obtain ⟨kA', comp', g1, g2, g3, g4⟩ := (C.2.2.2.1.2 2 _ rfl).2
  have hcB : cB = G.2.1.2.2 := Option.some.inj (f1.symm.trans g4)
  subst hcB
  generalize hH1 : H.push ({ cls := G.2.1.2.2, slots := Array.replicate x.toNatClampNeg .null, vm := .none } : Cell) = H1
  rw [hh]
  refine kk H1 (Z.push C.2.1 (by rw [← hH1, Array.size_push]) (fun q hq => by rw [← hH1, Array.getElem?_push, if_neg (Nat.ne_of_lt hq)]) ?_)
  show H1[zr G n]? = some (vp_cell _ _)
  rw [← hh, ← hH1, Array.getElem?_push_size, vp_cell_q, ← arrV_new]
  rfl
/-- how large the heap is, by what the method has made so far -/
theorem c_sized (C : zCC G p s m args c cc nL own) (hP : va_P G.1 vwCl (PW G cf n) H) (hS : va_S (zA1 G) s.heap H locs) (hn : 0 < n) (hcount : s.heap.size + cells ≤ zr G 0 + n) {g : JFrame} (kk : zHC G s cf n H locs → W p l e R s m args below meth c H locs cells slots Q g) : W p l e R s m args below meth c H locs cells slots Q g := by
  intro T hT X
  have h1 := X.heapSize
  rw [hT] at h1
  have h2 := (hP (n - 1) _ (PW_get (by omega) rfl)).lt
  have h3 : zr G (n - 1) < H.size := h2
  rw [C.2.1 (n - 1)] at h3
  exact kk ⟨⟨by omega, hP⟩, hS⟩ T hT X
theorem c_putF (C : zCC G p s m args c cc nL own) (Z : zHC G s cf n H locs) (hcount : s.heap.size + cells ≤ zr G 0 + n) {k ci : Nat} {fs : List Value} (hk : k < n) (he : cf k = .inr (ci, fs)) {T : u_T} {N : Nat} (hc : vwCl[ci]? = some (own, T, N)) (hin : ∀ w ∈ u_ws own T N, w ∈ zT) (ty0 : Nat → FieldType) (hty : ∀ k, k < N → parseFieldDescriptor (T k).2.2.1 = some (ty0 k)) (hnm : ∀ a, a < N → ∀ b, b < N → a ≠ b → (T a).2.1 ≠ (T b).2.1) (j : Nat) (hj : j < N) {index : Nat} (hl : Cond.fieldLink own index own (T j).2.1 (T j).2.2.1 ∈ zT) (h0 : (T j).1 = own) (hfin : (T j).2.2.2 = true) (hini : meth.name = "<init>") {ty : FieldType} (hd : parseFieldDescriptor (T j).2.2.1 = some ty) {b : Nat} (hna : narrow ty (.ref (zr G b)) = .ref (zr G b)) (hfi : fits ty (.ref (zr G b)) = true) (hlen : j < fs.length) (hdg : decode cc pc = .ok (.putfield index, 3))
    (kk : ∀ (H1 : Heap) (locs1 : List Loc), zHC G s (stc cf k (.inr (ci, fs.set j (.ref (zr G b))))) n H1 locs1 → W p l e R s m args below meth c H1 locs1 cells slots Q (F0 m (pc + 3) ls rest)) : W p l e R s m args below meth c H locs cells slots Q (F0 m pc ls (.ref (zr G b) :: .ref (zr G k) :: rest)) := by
  refine va_putF C.1.1 C.1.2.1 C.1.2.2.2.2 hin ty0 hty hnm C.1.2.2.2.1 C.2.2.2.1 Z.1.2 (PW_D C.2.1) Z.2 k (PW_get hk he) hc j hj (C.1.2.2.2.2 _ hl) (fun x hx => by rw [h0] at hx; exact hx) hfin hini h0 hd hna hfi hlen hdg (fun H1 locs1 hP hD hS => ?_)
  rw [PW_set] at hP
  exact c_sized C hP hS (Nat.lt_of_le_of_lt (Nat.zero_le k) hk) hcount (fun Z => kk H1 locs1 Z)
theorem c_putI (C : zCC G p s m args c cc nL own) (Z : zHC G s cf n H locs) (hcount : s.heap.size + cells ≤ zr G 0 + n) {k ci : Nat} {fs : List Value} (hk : k < n) (he : cf k = .inr (ci, fs)) {T : u_T} {N : Nat} (hc : vwCl[ci]? = some (own, T, N)) (hin : ∀ w ∈ u_ws own T N, w ∈ zT) (ty0 : Nat → FieldType) (hty : ∀ k, k < N → parseFieldDescriptor (T k).2.2.1 = some (ty0 k)) (hnm : ∀ a, a < N → ∀ b, b < N → a ≠ b → (T a).2.1 ≠ (T b).2.1) (j : Nat) (hj : j < N) {index : Nat} (hl : Cond.fieldLink own index own (T j).2.1 (T j).2.2.1 ∈ zT) (h0 : (T j).1 = own) (hfin : (T j).2.2.2 = false) (hd : parseFieldDescriptor (T j).2.2.1 = some .int) {x : Int32} (hlen : j < fs.length) (hdg : decode cc pc = .ok (.putfield index, 3))
    (kk : ∀ (H1 : Heap) (locs1 : List Loc), zHC G s (stc cf k (.inr (ci, fs.set j (.int x)))) n H1 locs1 → W p l e R s m args below meth c H1 locs1 cells slots Q (F0 m (pc + 3) ls rest)) : W p l e R s m args below meth c H locs cells slots Q (F0 m pc ls (.int x :: .ref (zr G k) :: rest)) := by
  refine va_put C.1.1 C.1.2.1 C.1.2.2.2.2 hin ty0 hty hnm C.1.2.2.2.1 C.2.2.2.1 Z.1.2 (PW_D C.2.1) Z.2 k (PW_get hk he) hc j hj (C.1.2.2.2.2 _ hl) (fun x hx => by rw [h0] at hx; exact hx) hfin hd rfl rfl hlen hdg (fun H1 locs1 hP hD hS => ?_)
  rw [PW_set] at hP
  exact c_sized C hP hS (Nat.lt_of_le_of_lt (Nat.zero_le k) hk) hcount (fun Z => kk H1 locs1 Z)
theorem c_astq (C : zCC G p s m args c cc nL own) (Z : zHC G s cf n H locs) (hcount : s.heap.size + cells ≤ zr G 0 + n) {k b : Nat} {N : Nat} {f : Nat → Option Nat} (hk : k < n) (he : cf k = .inl (G.2.1.2.2, N, .inr (.inr (.inr (.inr f))))) {vs : List Value} (hb : b < n) (hbe : cf b = .inr (3, vs)) {i : Int32} (hin : vp_in i N) (hdg : decode cc pc = .ok (.aastore, 1))
    (kk : ∀ (H1 : Heap) (locs1 : List Loc), zHC G s (stc cf k (.inl (G.2.1.2.2, N, .inr (.inr (.inr (.inr (va_up f i.toNatClampNeg (some (zr G b)))))))))  n H1 locs1 → W p l e R s m args below meth c H1 locs1 cells slots Q (F0 m (pc + 1) ls rest)) : W p l e R s m args below meth c H locs cells slots Q (F0 m pc ls (.ref (zr G b) :: .int i :: .ref (zr G k) :: rest)) := by
  refine va_astq C.1.1 C.1.2.1 C.2.2.2.1 Z.1.2 (PW_D C.2.1) Z.2 k 2 b 3 (r := (RX3, TX3, 7)) (PW_get hk he) rfl (PW_get hb hbe) rfl hin hdg (fun H1 locs1 hP hD hS => ?_)
  rw [PW_set] at hP
  exact c_sized C hP hS (Nat.lt_of_le_of_lt (Nat.zero_le k) hk) hcount (fun Z => kk H1 locs1 Z)
theorem c_alen (C : zCC G p s m args c cc nL own) (Z : zHC G s cf n H locs) {k N : Nat} {f : Nat → Option Nat} (hk : k < n) (he : cf k = .inl (G.2.1.2.2, N, .inr (.inr (.inr (.inr f))))) {v : Int32} (hv : Int32.ofNat N = v) (hdg : decode cc pc = .ok (.arraylength, 1))
    (kk : W p l e R s m args below meth c H locs cells slots Q (F0 m (pc + 1) ls (.int v :: rest))) : W p l e R s m args below meth c H locs cells slots Q (F0 m pc ls (.ref (zr G k) :: rest)) :=
  va_alen C.1.1 C.1.2.1 C.2.2.2.1 Z.1.2 k 2 (PW_get hk he) rfl hv hdg kk
theorem c_pre (C : zCC G p s m args c cc nL own) (Z : zHC G s cf n H locs) (As : List Value) : ∀ U : State, U.heap = H → s.WarmedH U.vm → va_Pc As (zPreC G cf n) As.toArray U := fun U hU hW => ⟨rfl, by rw [hU]; exact Z.1, by rw [hU]; exact C.now Z hW⟩
theorem c_aft {n' : Nat} {cf' : Nat → va_E} {t : State} {H1 : Heap} {locs1 : List Loc} (hB : zPC G cf' n' t.heap) (ht : t.heap = H1) (hS : va_S (zA1 G) s.heap H1 locs1) : zHC G s cf' n' H1 locs1 := ⟨by rw [← ht]; exact hB, hS⟩
section ZCC
variable {y : MethodName} {bytes : ByteArray} {maxL : Nat} {fr lo mc ms index : Nat} {As : List Value} {cf' : Nat → va_E} {n' na : Nat} {b : Nat}
theorem c_callIN {host : String} (C : zCC G p s m args c cc nL own) (Z : zHC G s cf n H locs) (hM : zMC l G y bytes maxL none fr lo mc ms (.ref (zr G b) :: As) cf n (zQC G cf' n')) (cw : va_CN R s args own index y host bytes maxL none (Cond.code y bytes maxL none :: zT) ({ frames := fr, cells := mc, slots := ms, locals := lo } : Room) mc ms na ∧ y.name = "<init>" ∧ (Cond.instanceMethod y).before args s = true) (hn : As.length = na) (hls : ls.size = nL) (hst : st = As.reverse ++ .ref (zr G b) :: rest) (hroom : (rest.map fun v => v.category).sum ≤ 8) (hf : cells + mc ≤ R.cells ∧ slots + ms ≤ R.slots) (hdg : decode cc pc = .ok (.invokespecial index, 3))
    (kk : ∀ (H1 : Heap) (locs1 : List Loc), zHC G s cf' n' H1 locs1 → W p l e R s m args below meth c H1 locs1 (cells + mc) (slots + ms) Q (F0 m (pc + 3) ls rest)) : W p l e R s m args below meth c H locs cells slots Q (F0 m pc ls st) := by
  refine va_callv (va_runIN (As := As) (rest := rest) C.1 hM cw ⟨zBlindC, c_pre C Z _⟩ rfl hn hls hst (lv_room hroom) hdg hf) Z.2 (fun q _ h => h) (fun q h => h) (fun u t H1 locs1 ht hvm hw hB hz1 hk1 hS => ?_)
  exact kk H1 locs1 (c_aft hB ht hS)
theorem c_callI (C : zCC G p s m args c cc nL own) (Z : zHC G s cf n H locs) (hM : zMC l G y bytes maxL none fr lo mc ms (.ref (zr G b) :: As) cf n (zQC G cf' n')) (cw : CallB R s args own index y bytes maxL none (Cond.code y bytes maxL none :: zT) ({ frames := fr, cells := mc, slots := ms, locals := lo } : Room) mc ms na ∧ y.name = "<init>" ∧ (Cond.instanceMethod y).before args s = true) (hn : As.length = na) (hls : ls.size = nL) (hst : st = As.reverse ++ .ref (zr G b) :: rest) (hroom : (rest.map fun v => v.category).sum ≤ 8) (hf : cells + mc ≤ R.cells ∧ slots + ms ≤ R.slots) (hdg : decode cc pc = .ok (.invokespecial index, 3))
    (kk : ∀ (H1 : Heap) (locs1 : List Loc), zHC G s cf' n' H1 locs1 → W p l e R s m args below meth c H1 locs1 (cells + mc) (slots + ms) Q (F0 m (pc + 3) ls rest)) : W p l e R s m args below meth c H locs cells slots Q (F0 m pc ls st) := by
  refine va_callv (va_runI (As := As) (rest := rest) C.1 hM cw ⟨zBlindC, c_pre C Z _⟩ rfl hn hls hst (lv_room hroom) hdg hf) Z.2 (fun q _ h => h) (fun q h => h) (fun u t H1 locs1 ht hvm hw hB hz1 hk1 hS => ?_)
  exact kk H1 locs1 (c_aft hB ht hS)
theorem c_callV {Cn : String} {ci : Nat} {fs : List Value} {T : u_T} {N : Nat} (C : zCC G p s m args c cc nL own) (Z : zHC G s cf n H locs) (hM : zMC l G y bytes maxL none fr lo mc ms (.ref (zr G b) :: As) cf n (zQC G cf' n')) (cw : CallW R s args own Cn index y bytes maxL none (Cond.code y bytes maxL none :: zT) ({ frames := fr, cells := mc, slots := ms, locals := lo } : Room) mc ms na) (hb : b < n) (he : cf b = .inr (ci, fs)) (hc : vwCl[ci]? = some (Cn, T, N)) (hn : As.length = na) (hls : ls.size = nL) (hst : st = As.reverse ++ .ref (zr G b) :: rest) (hroom : (rest.map fun v => v.category).sum ≤ 8) (hf : cells + mc ≤ R.cells ∧ slots + ms ≤ R.slots) (hdg : decode cc pc = .ok (.invokevirtual index, 3))
    (kk : ∀ (H1 : Heap) (locs1 : List Loc), zHC G s cf' n' H1 locs1 → W p l e R s m args below meth c H1 locs1 (cells + mc) (slots + ms) Q (F0 m (pc + 3) ls rest)) : W p l e R s m args below meth c H locs cells slots Q (F0 m pc ls st) := by
  refine va_callv (va_runV (As := As) (rest := rest) C.1 hM cw ⟨zBlindC, va_recv C.2.2.2.1 Z.1.2 hc (PW_get hb he), c_pre C Z _⟩ rfl hn hls hst (lv_room hroom) hdg hf) Z.2 (fun q _ h => h) (fun q h => h) (fun u t H1 locs1 ht hvm hw hB hz1 hk1 hS => ?_)
  exact kk H1 locs1 (c_aft hB ht hS)
theorem c_callSr {rt : FieldType} (C : zCC G p s m args c cc nL own) (Z : zHC G s cf n H locs) (hM : zMC l G y bytes maxL (some rt) fr lo mc ms As cf n (zQCr G b cf' n')) (cw : CallB R s args own index y bytes maxL (some rt) (Cond.code y bytes maxL (some rt) :: zT) ({ frames := fr, cells := mc, slots := ms, locals := lo } : Room) mc ms na ∧ (Cond.static y).before args s = true) (hn : As.length = na) (hls : ls.size = nL) (hst : st = As.reverse ++ rest) (hroom : (rest.map fun v => v.category).sum ≤ 8) (hf : cells + mc ≤ R.cells ∧ slots + ms ≤ R.slots) (hdg : decode cc pc = .ok (.invokestatic index, 3))
    (kk : ∀ (H1 : Heap) (locs1 : List Loc), zHC G s cf' n' H1 locs1 → W p l e R s m args below meth c H1 locs1 (cells + mc) (slots + ms) Q (F0 m (pc + 3) ls (.ref (zr G b) :: rest))) : W p l e R s m args below meth c H locs cells slots Q (F0 m pc ls st) := by
  refine va_callr (va_runS (As := As) (rest := rest) C.1 hM cw ⟨zBlindC, c_pre C Z _⟩ rfl hn hls hst (lv_room hroom) hdg hf) Z.2 (fun q _ h => h) (fun q h => h) (fun u a t H1 locs1 ht hvm hw hB hz1 hk1 hS => ?_)
  obtain ⟨rfl, hB⟩ := hB
  exact kk H1 locs1 (c_aft hB ht hS)
end ZCC
theorem c_vret (C : zCC G p s m args c cc nL own) (Z : zHC G s cf n H locs) (hr : meth.sig.returnType = none) (hlk : meth.locks = false) (hdg : decode cc pc = .ok (.return_, 1)) : W p l e R s m args below meth c H locs cells slots (MQ below (zQC G cf n) args s cells slots (zA1 G)) (F0 m pc ls []) :=
  W.vret C.1.1 C.1.2.1 hr (fun t ht hW => ⟨⟨(), rfl, trivial, by show zPC _ _ _ _; rw [ht]; exact Z.1⟩, Z.2.F ht⟩) Z.2.2.2 hdg hlk
theorem c_aret {b : Nat} {rt : FieldType} (C : zCC G p s m args c cc nL own) (Z : zHC G s cf n H locs) (hr : meth.sig.returnType = some (.array rt)) (hlk : meth.locks = false) (hdg : decode cc pc = .ok (.areturn, 1)) : W p l e R s m args below meth c H locs cells slots (MQ below (zQCr G b cf n) args s cells slots (zA1 G)) (F0 m pc ls [.ref (zr G b)]) :=
  W.aret C.1.1 C.1.2.1 hr (Or.inr ⟨_, rfl⟩) (Or.inr ⟨_, rfl⟩) (fun t ht hW => ⟨⟨(), zr G b, rfl, trivial, rfl, by show zPC _ _ _ _; rw [ht]; exact Z.1⟩, Z.2.F ht⟩) Z.2.2.2 hdg hlk
end ZCR
