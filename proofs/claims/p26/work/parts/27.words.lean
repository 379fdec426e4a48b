/-! words and numbers -/
def wL (t : Nat) : Nat := jsLen.getD t 0
def wW (t i : Nat) : Nat := ((jsByt.getD t []).getD i 0).toNatClampNeg
theorem wL_t : ∀ t : Fin 9, 3 ≤ wL t.val ∧ wL t.val ≤ 5 := by decide +kernel
theorem wW_t : ∀ t : Fin 9, ∀ i : Fin 5, (jsByt.getD t.val []).getD i.val 0 = nI (wW t.val i.val) ∧ wW t.val i.val < 128 ∧ (i.val < wL t.val → 97 ≤ wW t.val i.val ∧ wW t.val i.val ≤ 122) ∧ (¬ i.val < wL t.val → wW t.val i.val = 0) := by decide +kernel
def wm (T : Nat → Nat) (s e t : Nat) : Prop := e = s + wL t ∧ ∀ i, i < wL t → T (s + i) = wW t i
def wmB (T : Nat → Nat) (s e t : Nat) : Bool := decide (e = s + wL t ∧ ∀ i, i < wL t → T (s + i) = wW t i)
theorem wmB_t {T : Nat → Nat} {s e t : Nat} (h : wm T s e t) : wmB T s e t = true := decide_eq_true h
theorem wmB_f {T : Nat → Nat} {s e t : Nat} (h : ¬ wm T s e t) : wmB T s e t = false := decide_eq_false h
theorem wmB_iff {T : Nat → Nat} {s e t : Nat} : wmB T s e t = true ↔ wm T s e t := by
  unfold wmB wm
  exact decide_eq_true_iff
def wi (T : Nat → Nat) (s e : Nat) : Nat → Nat → Nat
  | 0, t => t
  | d + 1, t => if wmB T s e t = true then t else wi T s e d (t + 1)
theorem wi_le (T : Nat → Nat) (s e : Nat) : ∀ d t, t ≤ wi T s e d t ∧ wi T s e d t ≤ t + d := by
  intro d
  induction d with
  | zero => intro t; exact ⟨Nat.le_refl _, Nat.le_refl _⟩
  | succ d ih =>
    intro t
    have := ih (t + 1)
    unfold wi
    split <;> omega
section GG
variable {N : Nat} {n : Nat} {T : Nat → Nat}
theorem name4 {mem : zMem} {t : Nat} (ht : t < 9) : f_X2_nameOf N mem (nI t) = some (t, mem) := by
  have : t = 0 ∨ t = 1 ∨ t = 2 ∨ t = 3 ∨ t = 4 ∨ t = 5 ∨ t = 6 ∨ t = 7 ∨ t = 8 := by omega
  rcases this with rfl | rfl | rfl | rfl | rfl | rfl | rfl | rfl | rfl <;> rfl
theorem is4_loop {mem : zMem} (hT : RTc mem n T) {s t : Nat} (ht : t < 9) (h6 : mem 1 6 = nI s) (hs : s + wL t ≤ n) : ∀ (d fu i : Nat), i + d = wL t → d < fu → (∀ j, j < i → T (s + j) = wW t j) → f_X2_tokenIs_20 N t fu mem (nI i) = some (b2i (decide (∀ j, j < wL t → T (s + j) = wW t j)), mem) := by
  have hn := hT.1
  have hl := wL_t ⟨t, ht⟩
  have hL : Int32.ofNat (jsLen.getD t 0) = nI (wL t) := rfl
  intro d
  induction d with
  | zero =>
    intro fu i hi hf hj
    obtain ⟨fu, rfl⟩ : ∃ n', fu = n' + 1 := ⟨fu - 1, by omega⟩
    have hl : 3 ≤ wL t ∧ wL t ≤ 5 := hl
    rw [f_X2_tokenIs_20.eq_2, zb_of (show f_J0_length_8abf5 N t mem = some (nI (wL t), mem) from rfl), if_pos (nI_le (by omega) (by omega)), decide_eq_true (fun j hj' => hj j (by omega))]
    rfl
  | succ d ih =>
    intro fu i hi hf hj
    obtain ⟨fu, rfl⟩ : ∃ n', fu = n' + 1 := ⟨fu - 1, by omega⟩
    have hl : 3 ≤ wL t ∧ wL t ≤ 5 := hl
    obtain ⟨w1, w2, -, -⟩ := wW_t ⟨t, ht⟩ ⟨i, by omega⟩
    have w1 : (jsByt.getD t []).getD i 0 = nI (wW t i) := w1
    have w2 : wW t i < 128 := w2
    obtain ⟨t1, t2⟩ := hT.2.2 (s + i) (by omega)
    have hc : f_J0_charAt_5068e N t mem (nI i) = some (nI (wW t i), mem) := by
      unfold f_J0_charAt_5068e
      rw [zgd_t (show zin (nI i) (jsLen.getD t 0) = true from zin_nI (n := wL t) (by omega) (by omega)), nI_clamp (by omega), w1]
    rw [f_X2_tokenIs_20.eq_2, zb_of (show f_J0_length_8abf5 N t mem = some (nI (wL t), mem) from rfl), if_neg (nI_ge (by omega) (by omega)), h6, nI_add, zgd_t (zin_nI (by omega) (by omega)), zb_of hc, nI_clamp (by omega), t2, nI_1]
    by_cases c : T (s + i) = wW t i
    · rw [if_pos (by rw [c])]
      refine ih fu (i + 1) (by omega) (by omega) (fun j hj' => ?_)
      by_cases e : j = i
      · subst e
        exact c
      · exact hj j (by omega)
    · rw [if_neg (fun z => c ((nI_eq (by omega) (by omega)).mp z)), decide_eq_false (fun z => c (z i (by omega)))]
      rfl
theorem is4 {mem : zMem} (hT : RTc mem n T) (hN : 300 ≤ N) {s e t : Nat} (ht : t < 9) (hse : s ≤ e) (he : e ≤ n) (h6 : mem 1 6 = nI s) (h7 : mem 1 7 = nI e) : f_X2_tokenIs N t mem = some (b2i (wmB T s e t), mem) := by
  have hn := hT.1
  have hl : 3 ≤ wL t ∧ wL t ≤ 5 := wL_t ⟨t, ht⟩
  unfold f_X2_tokenIs
  rw [zb_of (show f_J0_length_8abf5 N t mem = some (nI (wL t), mem) from rfl), h6, h7, pk_sub hse]
  by_cases c : wL t = e - s
  · rw [if_pos (by rw [c])]
    refine (is4_loop hT ht h6 (by omega) (wL t) N 0 (by omega) (by omega) (fun j hj => absurd hj (Nat.not_lt_zero j))).trans ?_
    have : (decide (∀ j, j < wL t → T (s + j) = wW t j)) = wmB T s e t := by
      refine decide_eq_decide.mpr ?_
      exact ⟨fun h => ⟨by omega, h⟩, fun h => h.2⟩
    rw [this]
  · rw [if_neg (fun z => c ((nI_eq (by omega) (by omega)).mp z)), wmB_f (fun z => c (by have := z.1; omega))]
    rfl
theorem word4 {mem : zMem} (hT : RTc mem n T) (hN : 300 ≤ N) {s e : Nat} (hse : s ≤ e) (he : e ≤ n) (h6 : mem 1 6 = nI s) (h7 : mem 1 7 = nI e) : f_X2_tokenWord N mem = some (if wi T s e 9 0 < 9 then nI (wi T s e 9 0) else -1, mem) := by
  have loop : ∀ (d fu t : Nat), t + d = 9 → d < fu → f_X2_tokenWord_2 N fu mem (nI t) = some (if wi T s e d t < 9 then nI (wi T s e d t) else -1, mem) := by
    intro d
    induction d with
    | zero =>
      intro fu t hi hf
      obtain ⟨fu, rfl⟩ : ∃ n', fu = n' + 1 := ⟨fu - 1, by omega⟩
      obtain rfl : t = 9 := by omega
      rw [f_X2_tokenWord_2.eq_2, if_pos (show (8 : Int32) < nI 9 by decide)]
      rfl
    | succ d ih =>
      intro fu t hi hf
      obtain ⟨fu, rfl⟩ : ∃ n', fu = n' + 1 := ⟨fu - 1, by omega⟩
      rw [f_X2_tokenWord_2.eq_2, if_neg (show ¬ (8 : Int32) < nI t from nI_nlt (a := 8) (b := t) (by omega) (by omega)), zb_of (name4 (by omega)), zb_of (is4 hT hN (by omega) hse he h6 h7), nI_1]
      unfold wi
      by_cases c : wmB T s e t = true
      · rw [if_pos c, c, if_neg (show ¬ b2i true = 0 by decide), if_pos (show t < 9 by omega)]
      · rw [if_neg c, Bool.eq_false_iff.mpr c, if_pos (show b2i false = 0 from rfl)]
        exact ih fu (t + 1) (by omega) (by omega)
  exact loop 9 N 0 (by omega) (by omega)
/-- the reference's test of a word, one letter of it -/
def pw (T : Nat → Nat) (s e t i : Nat) : Bool := if s + i < e then decide (T (s + i) = wW t i) else decide (wW t i = 0)
def pall (T : Nat → Nat) (s e t : Nat) : Nat → Nat → Bool
  | 0, _ => true
  | d + 1, i => pw T s e t i && pall T s e t d (i + 1)
theorem pall_iff {T : Nat → Nat} {s e t : Nat} : ∀ d i, pall T s e t d i = true ↔ ∀ j, i ≤ j → j < i + d → pw T s e t j = true := by
  intro d
  induction d with
  | zero => intro i; exact ⟨fun _ j h1 h2 => by omega, fun _ => rfl⟩
  | succ d ih =>
    intro i
    unfold pall
    rw [Bool.and_eq_true, ih]
    constructor
    · intro h j h1 h2
      by_cases e : j = i
      · subst e; exact h.1
      · exact h.2 j (by omega) (by omega)
    · intro h
      exact ⟨h i (by omega) (by omega), fun j h1 h2 => h j (by omega) (by omega)⟩
theorem isw_loop {mem : zMem} (hT : RTm mem n T) {s e t : Nat} (ht : t < 9) (he : e ≤ n) (h13 : mem 44 13 = nI e) (h15 : mem 44 15 = nI s) (hse : s ≤ e) : ∀ (d fu i : Nat) (b : Bool), i + d = 5 → d < fu → f_X5_isWord_32 N fu mem (nI (wW t 0)) (nI (wW t 1)) (nI (wW t 2)) (nI (wW t 3)) (nI (wW t 4)) (b2i b) (nI i) = some (b2i (b && pall T s e t d i), mem) := by
  have hn := hT.1
  have zb1 : ∀ b : Bool, zbo (b2i b) = true := fun b => by cases b <;> rfl
  have key : ∀ (A : Int32 → Option (Int32 × zMem)) (i : Nat), i < 5 → (if mem 44 13 ≤ mem 44 15 + nI i then (if nI (wW t i) = 0 then A 1 else A 0) else zgd (zin (mem 44 15 + nI i) 160) (if mem 45 (mem 44 15 + nI i).toNatClampNeg = nI (wW t i) then A 1 else A 0)) = A (b2i (pw T s e t i)) := by
    intro A i hi
    obtain ⟨-, w2, -, -⟩ := wW_t ⟨t, ht⟩ ⟨i, hi⟩
    have w2 : wW t i < 128 := w2
    rw [h13, h15, nI_add]
    unfold pw
    by_cases c : s + i < e
    · obtain ⟨t1, t2⟩ := hT.2.2 (s + i) (by omega)
      rw [if_neg (nI_ge c (by omega)), zgd_t (zin_nI (by omega) (by omega)), nI_clamp (by omega), t2, if_pos c]
      by_cases c2 : T (s + i) = wW t i
      · rw [if_pos (by rw [c2]), decide_eq_true c2]
        rfl
      · rw [if_neg (fun z => c2 ((nI_eq (by omega) (by omega)).mp z)), decide_eq_false c2]
        rfl
    · rw [if_pos (nI_le (by omega) (by omega)), if_neg c]
      by_cases c2 : wW t i = 0
      · rw [if_pos (by rw [c2]; rfl), decide_eq_true c2]
        rfl
      · rw [if_neg (show ¬ nI (wW t i) = (0 : Int32) from fun z => c2 ((nI_eq (by omega) (by omega)).mp (show nI (wW t i) = nI 0 from z))), decide_eq_false c2]
        rfl
  intro d
  induction d with
  | zero =>
    intro fu i b hi hf
    obtain ⟨fu, rfl⟩ : ∃ n', fu = n' + 1 := ⟨fu - 1, by omega⟩
    obtain rfl : i = 5 := by omega
    rw [f_X5_isWord_32.eq_2, if_pos (show (5 : Int32) ≤ nI 5 by decide), zgd_t (zb1 b)]
    unfold pall
    rw [Bool.and_true]
  | succ d ih =>
    intro fu i b hi hf
    obtain ⟨fu, rfl⟩ : ∃ n', fu = n' + 1 := ⟨fu - 1, by omega⟩
    rw [f_X5_isWord_32.eq_2, if_neg (show ¬ (5 : Int32) ≤ nI i from nI_ge (a := i) (b := 5) (by omega) (by omega))]
    cases b with
    | false =>
      rw [if_pos (show b2i false = 0 from rfl), zgd_t (zb1 false), Bool.false_and]
    | true =>
      rw [if_neg (show ¬ b2i true = 0 by decide), Bool.true_and, nI_1]
      have hih := ih fu (i + 1) (pw T s e t i) (by omega) (by omega)
      show _ = some (b2i (pw T s e t i && pall T s e t d (i + 1)), mem)
      rw [← hih]
      have ci : i = 0 ∨ i = 1 ∨ i = 2 ∨ i = 3 ∨ i = 4 := by omega
      rcases ci with rfl | rfl | rfl | rfl | rfl
      · rw [if_pos (show nI 0 = 0 from rfl)]
        exact key (fun x => f_X5_isWord_32 N fu mem (nI (wW t 0)) (nI (wW t 1)) (nI (wW t 2)) (nI (wW t 3)) (nI (wW t 4)) x (nI (0 + 1))) 0 (by omega)
      · rw [if_neg (show ¬ nI 1 = 0 by decide), if_pos (show nI 1 = 1 from rfl)]
        exact key (fun x => f_X5_isWord_32 N fu mem (nI (wW t 0)) (nI (wW t 1)) (nI (wW t 2)) (nI (wW t 3)) (nI (wW t 4)) x (nI (1 + 1))) 1 (by omega)
      · rw [if_neg (show ¬ nI 2 = 0 by decide), if_neg (show ¬ nI 2 = 1 by decide), if_pos (show nI 2 = 2 from rfl)]
        exact key (fun x => f_X5_isWord_32 N fu mem (nI (wW t 0)) (nI (wW t 1)) (nI (wW t 2)) (nI (wW t 3)) (nI (wW t 4)) x (nI (2 + 1))) 2 (by omega)
      · rw [if_neg (show ¬ nI 3 = 0 by decide), if_neg (show ¬ nI 3 = 1 by decide), if_neg (show ¬ nI 3 = 2 by decide), if_pos (show nI 3 = 3 from rfl)]
        exact key (fun x => f_X5_isWord_32 N fu mem (nI (wW t 0)) (nI (wW t 1)) (nI (wW t 2)) (nI (wW t 3)) (nI (wW t 4)) x (nI (3 + 1))) 3 (by omega)
      · rw [if_neg (show ¬ nI 4 = 0 by decide), if_neg (show ¬ nI 4 = 1 by decide), if_neg (show ¬ nI 4 = 2 by decide), if_neg (show ¬ nI 4 = 3 by decide)]
        exact key (fun x => f_X5_isWord_32 N fu mem (nI (wW t 0)) (nI (wW t 1)) (nI (wW t 2)) (nI (wW t 3)) (nI (wW t 4)) x (nI (4 + 1))) 4 (by omega)
/-- both tests of a word are the same -/
theorem wm_iff {s t : Nat} (ht : t < 9) (hs : s ≤ n) : (tK T n s = 1 ∧ tE T n s - s < 6 ∧ pall T s (tE T n s) t 5 0 = true) ↔ wm T s (tE T n s) t := by
  have hl : 3 ≤ wL t ∧ wL t ≤ 5 := wL_t ⟨t, ht⟩
  have hw : ∀ i, i < 5 → wW t i < 128 ∧ (i < wL t → 97 ≤ wW t i ∧ wW t i ≤ 122) ∧ (¬ i < wL t → wW t i = 0) := fun i hi => (wW_t ⟨t, ht⟩ ⟨i, hi⟩).2
  have hge := tE_ge T n s
  have hle := tE_le (T := T) hs
  constructor
  · rintro ⟨h1, h2, h3⟩
    have h3' := (pall_iff 5 0).mp h3
    have hall : ∀ j, s ≤ j → j < tE T n s → 97 ≤ T j ∧ T j ≤ 122 := by
      rcases tok_cases T n s with ⟨a, b, c, d⟩ | ⟨a, b, c, d, e, f⟩ | ⟨a, b, c, d, e, f⟩ | ⟨a, b, b2, c, d, f⟩
      · omega
      · intro j j1 j2
        rw [d] at j2
        exact rn_all j1 j2
      · omega
      · omega
    have hp : ∀ i, i < 5 → (s + i < tE T n s → T (s + i) = wW t i) ∧ (¬ s + i < tE T n s → wW t i = 0) := by
      intro i hi
      have h := h3' i (by omega) (by omega)
      unfold pw at h
      constructor
      · intro c
        rw [if_pos c] at h
        exact of_decide_eq_true h
      · intro c
        rw [if_neg c] at h
        exact of_decide_eq_true h
    have hL : tE T n s = s + wL t := by
      have a1 : ¬ tE T n s < s + wL t := by
        intro c
        have hi5 : tE T n s - s < 5 := by omega
        have := (hp (tE T n s - s) hi5).2 (by omega)
        have := (hw (tE T n s - s) hi5).2.1 (by omega)
        omega
      have a2 : ¬ s + wL t < tE T n s := by
        intro c
        have hi5 : wL t < 5 := by omega
        have b1 := (hp (wL t) hi5).1 c
        have b2 := (hw (wL t) hi5).2.2 (by omega)
        have b3 := hall (s + wL t) (by omega) c
        omega
      omega
    exact ⟨hL, fun i hi => (hp i (by omega)).1 (by omega)⟩
  · rintro ⟨h1, h2⟩
    have t0 := h2 0 (by omega)
    have w0 := (hw 0 (by omega)).2.1 (by omega)
    rw [Nat.add_zero] at t0
    refine ⟨?_, by omega, (pall_iff 5 0).mpr (fun j j1 j2 => ?_)⟩
    · rcases tok_cases T n s with ⟨a, b, c, d⟩ | ⟨a, b, c, d, e, f⟩ | ⟨a, b, c, d, e, f⟩ | ⟨a, b, b2, c, d, f⟩ <;> omega
    · unfold pw
      by_cases c : s + j < tE T n s
      · rw [if_pos c]
        exact decide_eq_true (h2 j (by omega))
      · rw [if_neg c]
        exact decide_eq_true ((hw j (by omega)).2.2 (by omega))
theorem isw5 {mem : zMem} (hT : RTm mem n T) (hN : 300 ≤ N) {s t : Nat} (ht : t < 9) (hs : s ≤ n) (h13 : mem 44 13 = nI (tE T n s)) (h14 : mem 44 14 = nI (tK T n s)) (h15 : mem 44 15 = nI s) : f_X5_isWord N mem (nI (wW t 0)) (nI (wW t 1)) (nI (wW t 2)) (nI (wW t 3)) (nI (wW t 4)) = some (b2i (wmB T s (tE T n s) t), mem) := by
  have hn := hT.1
  have hge := tE_ge T n s
  have hle := tE_le (T := T) hs
  have hk : tK T n s < 4 := by
    rcases tok_cases T n s with ⟨a, b, c, d⟩ | ⟨a, b, c, d, e, f⟩ | ⟨a, b, c, d, e, f⟩ | ⟨a, b, b2, c, d, f⟩ <;> omega
  have hz : ∀ b : Bool, f_X5_isWord_32 N N mem (nI (wW t 0)) (nI (wW t 1)) (nI (wW t 2)) (nI (wW t 3)) (nI (wW t 4)) (b2i b) (0 : Int32) = some (b2i (b && pall T s (tE T n s) t 5 0), mem) := fun b => isw_loop hT ht hle h13 h15 hge 5 N 0 b (by omega) (by omega)
  unfold f_X5_isWord f_X5_isWord_26 f_X5_isWord_27
  rw [h14, h13, h15, pk_sub hge]
  have fin : ∀ b : Bool, b = decide (tK T n s = 1 ∧ tE T n s - s < 6) → some (b2i (b && pall T s (tE T n s) t 5 0), mem) = some (b2i (wmB T s (tE T n s) t), mem) := by
    intro b hb
    have : (b && pall T s (tE T n s) t 5 0) = wmB T s (tE T n s) t := by
      rw [hb, Bool.eq_iff_iff, Bool.and_eq_true, decide_eq_true_iff, wmB_iff, ← wm_iff ht hs]
      exact ⟨fun h => ⟨h.1.1, h.1.2, h.2⟩, fun h => ⟨⟨h.1, h.2.1⟩, h.2.2⟩⟩
    rw [this]
  by_cases c1 : tK T n s = 1
  · rw [if_pos (by rw [c1]; rfl)]
    by_cases c2 : tE T n s - s < 6
    · rw [if_neg (show ¬ (6 : Int32) ≤ nI (tE T n s - s) from nI_ge (a := tE T n s - s) (b := 6) c2 (by omega))]
      exact (hz true).trans (fin true (decide_eq_true ⟨c1, c2⟩).symm)
    · rw [if_pos (show (6 : Int32) ≤ nI (tE T n s - s) from nI_le (a := 6) (b := tE T n s - s) (by omega) (by omega))]
      exact (hz false).trans (fin false (decide_eq_false (fun z => c2 z.2)).symm)
  · rw [if_neg (show ¬ nI (tK T n s) = (1 : Int32) from fun z => c1 ((nI_eq (by omega) (by omega)).mp (show nI (tK T n s) = nI 1 from z)))]
    exact (hz false).trans (fin false (decide_eq_false (fun z => c1 z.1)).symm)
/-- the number that a token tells, up to a bound -/
def okN (T : Nat → Nat) (n s lo up : Nat) : Prop := tK T n s = 2 ∧ lo ≤ tV T n s ∧ tV T n s ≤ up
def okB (T : Nat → Nat) (n s lo up : Nat) : Bool := decide (tK T n s = 2 ∧ lo ≤ tV T n s ∧ tV T n s ≤ up)
theorem okB_t {T : Nat → Nat} {n s lo up : Nat} (h : okN T n s lo up) : okB T n s lo up = true := decide_eq_true h
theorem okB_f {T : Nat → Nat} {n s lo up : Nat} (h : ¬ okN T n s lo up) : okB T n s lo up = false := decide_eq_false h
theorem okB_iff {T : Nat → Nat} {n s lo up : Nat} : okB T n s lo up = true ↔ okN T n s lo up := by
  unfold okB okN
  exact decide_eq_true_iff
theorem num4_loop {mem : zMem} (hT : RTc mem n T) {s e : Nat} (he : e ≤ n) (h7 : mem 1 7 = nI e) (h2 : e ≤ s + 2) (hd : ∀ j, s ≤ j → j < e → 48 ≤ T j ∧ T j ≤ 57) : ∀ (d fu i : Nat), i + d = e → d < fu → s ≤ i → f_X2_tokenNumber_48 N fu mem (nI (vv T s i)) (nI i) = some (nI (vv T s e), mem) := by
  have hn := hT.1
  intro d
  induction d with
  | zero =>
    intro fu i hi hf hsi
    obtain ⟨fu, rfl⟩ : ∃ n', fu = n' + 1 := ⟨fu - 1, by omega⟩
    obtain rfl : i = e := by omega
    rw [f_X2_tokenNumber_48.eq_2, h7, if_pos (nI_le (Nat.le_refl _) (by omega))]
  | succ d ih =>
    intro fu i hi hf hsi
    obtain ⟨fu, rfl⟩ : ∃ n', fu = n' + 1 := ⟨fu - 1, by omega⟩
    obtain ⟨t1, t2⟩ := hT.2.2 i (by omega)
    have c2 := hd i hsi (by omega)
    rw [f_X2_tokenNumber_48.eq_2, h7, if_neg (nI_ge (by omega) (by omega)), zgd_t (zin_nI (by omega) (by omega)), nI_clamp (by omega), t2, show (10 : Int32) = nI 10 from rfl, pk_mul, nI_add, show (48 : Int32) = nI 48 from rfl, pk_sub (by omega), nI_1]
    have : vv T s i * 10 + T i - 48 = vv T s (i + 1) := by
      unfold vv
      by_cases c4 : i = s
      · subst c4
        rw [if_pos (Nat.le_refl _), if_neg (by omega), if_pos rfl]
        omega
      · obtain rfl : i = s + 1 := by omega
        rw [if_neg (by omega), if_pos rfl, if_neg (by omega), if_neg (by omega), if_pos rfl]
        omega
    rw [this]
    exact ih fu (i + 1) (by omega) (by omega) (by omega)
theorem num4 {mem : zMem} (hT : RTc mem n T) (hN : 300 ≤ N) {s : Nat} (hs : s ≤ n) (h6 : mem 1 6 = nI s) (h7 : mem 1 7 = nI (tE T n s)) : ∃ v : Int32, f_X2_tokenNumber N mem = some (v, mem) ∧ ∀ lo up, lo < 100 → up < 100 → ((okN T n s lo up → v = nI (tV T n s)) ∧ (f_X4_isWithin N mem v (nI lo) (nI up) = some (b2i (okB T n s lo up), mem))) := by
  have hn := hT.1
  have hge := tE_ge T n s
  have hle := tE_le (T := T) hs
  have no : f_X2_tokenNumber N mem = some (-1, mem) → (∀ lo up, lo < 100 → up < 100 → ¬ okN T n s lo up) → ∃ v : Int32, f_X2_tokenNumber N mem = some (v, mem) ∧ ∀ lo up, lo < 100 → up < 100 → ((okN T n s lo up → v = nI (tV T n s)) ∧ (f_X4_isWithin N mem v (nI lo) (nI up) = some (b2i (okB T n s lo up), mem))) := by
    intro h1 h2
    refine ⟨-1, h1, fun lo up hlo hup => ⟨fun h => absurd h (h2 lo up hlo hup), ?_⟩⟩
    rw [okB_f (h2 lo up hlo hup)]
    refine w4_out (Or.inl ?_)
    rw [Int32.lt_iff_toInt_lt, nI_toInt (by omega)]
    exact Int.lt_of_lt_of_le (by decide) (Int.natCast_nonneg lo)
  unfold f_X2_tokenNumber at no ⊢
  rw [h6, h7, pk_sub hge] at no ⊢
  by_cases c1 : tE T n s - s < 1
  · refine no ?_ ?_
    · rw [if_pos (show nI (tE T n s - s) < (1 : Int32) from nI_lt (b := 1) c1 (by omega))]
    · intro lo up hlo hup h
      rcases tok_cases T n s with ⟨a, b, c, d⟩ | ⟨a, b, c, d, e, f⟩ | ⟨a, b, c, d, e, f⟩ | ⟨a, b, b2, c, d, f⟩ <;> have := h.1 <;> omega
  · by_cases c2 : 2 < tE T n s - s
    · refine no ?_ ?_
      · rw [if_neg (show ¬ nI (tE T n s - s) < (1 : Int32) from nI_nlt (b := 1) (by omega) (by omega)), if_pos (show (2 : Int32) < nI (tE T n s - s) from nI_lt (a := 2) c2 (by omega))]
      · intro lo up hlo hup h
        rcases tok_cases T n s with ⟨a, b, c, d⟩ | ⟨a, b, c, d, e, f⟩ | ⟨a, b, c, d, e, f⟩ | ⟨a, b, b2, c, d, f⟩
        · have := h.1; omega
        · have := h.1; omega
        · have h3 := h.2.2
          rw [f] at h3
          unfold vv at h3
          rw [if_neg (by omega), if_neg (by omega), if_neg (by omega)] at h3
          omega
        · have := h.1; omega
    · have hsn : s < n := by omega
      obtain ⟨t1, t2⟩ := hT.2.2 s hsn
      rw [if_neg (show ¬ nI (tE T n s - s) < (1 : Int32) from nI_nlt (b := 1) (by omega) (by omega)), if_neg (show ¬ (2 : Int32) < nI (tE T n s - s) from nI_nlt (a := 2) (by omega) (by omega)), zgd_t (zin_nI (by omega) (by omega)), nI_clamp (by omega), t2, zb_of (show f_X4_isWithin N mem (nI (T s)) (48 : Int32) (57 : Int32) = _ from wn4 (lo := 48) (hi := 57) (by omega) (by omega) (by omega))] at no ⊢
      by_cases c3 : 48 ≤ T s ∧ T s ≤ 57
      · rw [if_pos c3, if_neg (by decide), h6]
        rcases tok_cases T n s with ⟨a, b, c, d⟩ | ⟨a, b, c, d, e, f⟩ | ⟨a, b, c, d, e, f⟩ | ⟨a, b, b2, c, d, f⟩
        · omega
        · omega
        · have hv0 : vv T s s = 0 := by unfold vv; rw [if_pos (Nat.le_refl _)]
          have h := num4_loop (N := N) hT hle h7 (by omega) (fun j j1 j2 => rn_all (T := T) (n := n) j1 (by rw [← d]; exact j2)) (tE T n s - s) N s (by omega) (by omega) (Nat.le_refl _)
          rw [hv0] at h
          have hv : tV T n s = vv T s (tE T n s) := by rw [f, d]
          have hb := tV_le T n s
          refine ⟨nI (tV T n s), by rw [hv]; exact h, fun lo up hlo hup => ⟨fun _ => rfl, ?_⟩⟩
          rw [wn4 (by omega) (by omega) (by omega)]
          by_cases q : lo ≤ tV T n s ∧ tV T n s ≤ up
          · rw [if_pos q, okB_t (show okN T n s lo up from ⟨c, q⟩)]
            rfl
          · rw [if_neg q, okB_f (fun z => q z.2)]
            rfl
        · exact absurd c3 b2
      · refine no ?_ ?_
        · rw [if_neg c3, if_pos rfl]
        · intro lo up hlo hup h
          rcases tok_cases T n s with ⟨a, b, c, d⟩ | ⟨a, b, c, d, e, f⟩ | ⟨a, b, c, d, e, f⟩ | ⟨a, b, b2, c, d, f⟩
          · have := h.1; omega
          · have := h.1; omega
          · exact c3 b
          · have := h.1; omega
theorem num5 {mem : zMem} (hT : RTm mem n T) (hN : 300 ≤ N) {e p lo up : Nat} (he : e ≤ n) (h13 : mem 44 13 = nI e) (hp : p < 35) (hlo : lo < 100) (hup : up < 100) : ∃ mem' : zMem, f_X5_number N mem (nI p) (nI lo) (nI up) = some (b2i (okB T n (tS T n e) lo up), mem') ∧ mem' 44 13 = nI (tE T n (tS T n e)) ∧ mem' 44 15 = nI (tS T n e) ∧ mem' 47 = upd (mem 47) p (nI (tV T n (tS T n e))) ∧ (∀ k, k ≠ 44 → k ≠ 47 → mem' k = mem k) ∧ ∀ j, j < 13 ∨ 16 < j → mem' 44 j = mem 44 j := by
  obtain ⟨m', e1, e2, e3, e4, e5, e6, e7⟩ := tok5 hN hT he h13
  generalize tS T n e = s at e2 e3 e4 e5 ⊢
  have hb := tV_le T n s
  have hk : tK T n s < 4 := by
    rcases tok_cases T n s with ⟨a, b, c, d⟩ | ⟨a, b, c, d, e, f⟩ | ⟨a, b, c, d, e, f⟩ | ⟨a, b, b2, c, d, f⟩ <;> omega
  have fr : ∀ k, k ≠ 47 → wr m' 47 p (nI (tV T n s)) k = m' k := fun k hk => wr_ne hk
  refine ⟨wr m' 47 p (nI (tV T n s)), ?_, by rw [fr 44 (by decide)]; exact e2, by rw [fr 44 (by decide)]; exact e4, by rw [wr_at, e6 47 (by decide)], fun k h1 h2 => (fr k h2).trans (e6 k h1), fun j hj => by rw [fr 44 (by decide)]; exact e7 j hj⟩
  unfold f_X5_number
  rw [zb_of e1, zgd_t (zin_nI hp (by omega)), nI_clamp (by omega), e5, zlet_e, fr 44 (by decide), e3, e5]
  by_cases c : tK T n s = 2
  · rw [if_pos (by rw [c]; rfl), zb_of (wn5 (by omega) (by omega) (by omega))]
    by_cases q : lo ≤ tV T n s ∧ tV T n s ≤ up
    · rw [if_pos q, if_neg (by decide), okB_t (show okN T n s lo up from ⟨c, q⟩)]
      rfl
    · rw [if_neg q, if_pos rfl, okB_f (fun z => q z.2)]
      rfl
  · rw [if_neg (show ¬ nI (tK T n s) = (2 : Int32) from fun z => c ((nI_eq (by omega) (by omega)).mp (show nI (tK T n s) = nI 2 from z))), okB_f (fun z => c z.1)]
    rfl
end GG
