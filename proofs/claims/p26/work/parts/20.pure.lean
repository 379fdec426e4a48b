/-! plain facts for the functions: loops that fill rows, the memory behind the two constructors -/
def rset (mem : zMem) (c : Nat) (f : Nat → Int32) : zMem := fun k => if k = c then f else mem k
theorem rset_rset {mem : zMem} {c : Nat} {f g : Nat → Int32} : rset (rset mem c f) c g = rset mem c g := by
  funext k
  unfold rset
  by_cases h : k = c
  · simp [h]
  · simp [h]
theorem rset_at {mem : zMem} {c : Nat} {f : Nat → Int32} : rset mem c f c = f := if_pos rfl
theorem rset_ne {mem : zMem} {c k : Nat} {f : Nat → Int32} (h : k ≠ c) : rset mem c f k = mem k := if_neg h
theorem rset_ext {mem : zMem} {c : Nat} {f g : Nat → Int32} (h : ∀ j, f j = g j) : rset mem c f = rset mem c g := by
  rw [show f = g from funext h]
theorem wr_rset (mem : zMem) (c i : Nat) (v : Int32) : wr mem c i v = rset mem c (upd (mem c) i v) := rfl
theorem rset_self {mem : zMem} {c : Nat} {f : Nat → Int32} (h : ∀ j, f j = mem c j) : rset mem c f = mem := by
  funext k
  unfold rset
  by_cases hk : k = c
  · subst hk
    rw [if_pos rfl]
    exact funext h
  · rw [if_neg hk]
theorem zin_nI {i n : Nat} (h : i < n) (hn : n < 2 ^ 31) : zin (nI i) n = true := by
  unfold zin
  rw [nI_toInt (by omega)]
  exact decide_eq_true ⟨by omega, by omega⟩
theorem zgd_t {α : Type} {b : Bool} {x : Option α} (h : b = true) : zgd b x = x := by subst h; rfl
theorem zlet_e {α : Type} {x : zMem} {k : zMem → Option α} : zlet x k = k x := rfl
theorem zb_e {α β : Type} {r : α} {m : zMem} {k : α → zMem → Option β} : zb (some (r, m)) k = k r m := rfl
theorem zb_of {α β : Type} {x : Option (α × zMem)} {r : α} {m : zMem} {k : α → zMem → Option β} (h : x = some (r, m)) : zb x k = k r m := by subst h; rfl
theorem lit_le {a b : Nat} (ha : a < 2 ^ 31) (hb : b < 2 ^ 31) : (nI a ≤ nI b) = (a ≤ b) := propext (nI_leI ha hb)
theorem forgets_loop (N : Nat) : ∀ (d n i : Nat) (mem : zMem), i + d = 35 → d < n → f_X5_forgets_2 N n mem (nI i) = some ((), rset mem 47 (fun j => if j = 3 then 1 else if i ≤ j ∧ j < 35 then 0 else mem 47 j)) := by
  intro d
  induction d with
  | zero =>
    intro n i mem hi hn
    obtain ⟨n, rfl⟩ : ∃ n', n = n' + 1 := ⟨n - 1, by omega⟩
    rw [f_X5_forgets_2.eq_2, if_pos (show (35 : Int32) ≤ nI i from nI_le (a := 35) (b := i) (by omega) (by omega)), zlet_e, wr_rset]
    refine congrArg (fun z => some ((), z)) (rset_ext (fun j => ?_))
    show (if j = 3 then 1 else mem 47 j) = _
    by_cases hj : j = 3
    · rw [if_pos hj, if_pos hj]
    · rw [if_neg hj, if_neg hj, if_neg (by omega)]
  | succ d ih =>
    intro n i mem hi hn
    obtain ⟨n, rfl⟩ : ∃ n', n = n' + 1 := ⟨n - 1, by omega⟩
    rw [f_X5_forgets_2.eq_2, if_neg (show ¬ (35 : Int32) ≤ nI i from nI_ge (a := i) (b := 35) (by omega) (by omega)), zgd_t (zin_nI (by omega) (by omega)), zlet_e, nI_1, ih n (i + 1) _ (by omega) (by omega), wr_rset, rset_rset]
    refine congrArg (fun z => some ((), z)) (rset_ext (fun j => ?_))
    rw [rset_at, nI_clamp (by omega)]
    by_cases hj : j = 3
    · rw [if_pos hj, if_pos hj]
    · rw [if_neg hj, if_neg hj]
      by_cases h1 : i + 1 ≤ j ∧ j < 35
      · rw [if_pos h1, if_pos (by omega)]
      · rw [if_neg h1]
        by_cases h2 : j = i
        · subst h2
          rw [if_pos (by omega)]
          exact if_pos rfl
        · rw [if_neg (by omega)]
          exact if_neg h2
theorem forgets_spec {N : Nat} (hN : 40 ≤ N) (mem : zMem) : f_X5_forgets N mem = some ((), rset mem 47 (fun j => if j = 3 then 1 else if j < 35 then 0 else mem 47 j)) := by
  show f_X5_forgets_2 N N mem (nI 0) = _
  rw [forgets_loop N 35 N 0 mem (by omega) (by omega)]
  refine congrArg (fun z => some ((), z)) (rset_ext (fun j => ?_))
  simp
theorem init_loop : ∀ (d n i : Nat) (mem : zMem), i + d = 35 → d < n → f_X5_init_loop n mem (nI i) = some ((), rset mem 46 (fun j => if i ≤ j ∧ j < 35 then mem 47 j else mem 46 j)) := by
  intro d
  induction d with
  | zero =>
    intro n i mem hi hn
    obtain ⟨n, rfl⟩ : ∃ n', n = n' + 1 := ⟨n - 1, by omega⟩
    rw [f_X5_init_loop.eq_2, if_pos (show (35 : Int32) ≤ nI i from nI_le (a := 35) (b := i) (by omega) (by omega))]
    refine congrArg (fun z => some ((), z)) (rset_self (fun j => ?_)).symm
    rw [if_neg (by omega)]
  | succ d ih =>
    intro n i mem hi hn
    obtain ⟨n, rfl⟩ : ∃ n', n = n' + 1 := ⟨n - 1, by omega⟩
    rw [f_X5_init_loop.eq_2, if_neg (show ¬ (35 : Int32) ≤ nI i from nI_ge (a := i) (b := 35) (by omega) (by omega)), zgd_t (zin_nI (by omega) (by omega)), zgd_t (zin_nI (by omega) (by omega)), zlet_e, nI_1, ih n (i + 1) _ (by omega) (by omega), wr_rset, rset_rset]
    refine congrArg (fun z => some ((), z)) (rset_ext (fun j => ?_))
    rw [rset_at, rset_ne (show 47 ≠ 46 by decide), nI_clamp (by omega)]
    by_cases h1 : i + 1 ≤ j ∧ j < 35
    · rw [if_pos h1, if_pos (by omega)]
    · rw [if_neg h1]
      by_cases h2 : j = i
      · subst h2
        rw [if_pos (by omega)]
        exact if_pos rfl
      · rw [if_neg (by omega)]
        exact if_neg h2
/-- what 'lays' makes of the row of the week: the sins as they were told, the wet, nothing else -/
def laid (t : Nat → Int32) (f : Nat → Int32) : Nat → Int32 := fun j => if j < 6 then t (29 + j) else if j = 6 then t 4 else if j < 12 then 0 else f j
def laysM (mem : zMem) : zMem := rset (rset (rset mem 48 (laid (mem 46) (mem 48))) 44 (upd (upd (upd (mem 44) 6 0) 10 0) 12 0)) 51 (upd (upd (mem 51) 0 0) 1 0)
theorem lays_loop (N : Nat) : ∀ (d n i : Nat) (mem : zMem), i + d = 12 → d < n → f_X5_lays_2 N n mem (nI i) = some ((), rset (rset (rset mem 48 (fun j => if i ≤ j ∧ j < 12 ∨ j = 6 then laid (mem 46) (mem 48) j else mem 48 j)) 44 (upd (upd (upd (mem 44) 6 0) 10 0) 12 0)) 51 (upd (upd (mem 51) 0 0) 1 0)) := by
  intro d
  induction d with
  | zero =>
    intro n i mem hi hn
    obtain ⟨n, rfl⟩ : ∃ n', n = n' + 1 := ⟨n - 1, by omega⟩
    rw [f_X5_lays_2.eq_2, if_pos (show (12 : Int32) ≤ nI i from nI_le (a := 12) (b := i) (by omega) (by omega))]
    refine congrArg (fun z => some ((), z)) ?_
    funext k
    by_cases h1 : k = 51
    · subst h1
      rfl
    · by_cases h2 : k = 44
      · subst h2
        rfl
      · by_cases h3 : k = 48
        · subst h3
          funext j
          show (if j = 6 then mem 46 4 else mem 48 j) = (if i ≤ j ∧ j < 12 ∨ j = 6 then laid (mem 46) (mem 48) j else mem 48 j)
          by_cases hj : j = 6
          · subst hj
            rw [if_pos rfl, if_pos (Or.inr rfl)]
            rfl
          · rw [if_neg hj, if_neg (by omega)]
        · simp [wr, rset, h1, h2, h3]
  | succ d ih =>
    intro n i mem hi hn
    obtain ⟨n, rfl⟩ : ∃ n', n = n' + 1 := ⟨n - 1, by omega⟩
    have fin : ∀ v : Int32, v = laid (mem 46) (mem 48) i → some ((), rset (rset (rset (wr mem 48 i v) 48 (fun j => if i + 1 ≤ j ∧ j < 12 ∨ j = 6 then laid (mem 46) ((wr mem 48 i v) 48) j else (wr mem 48 i v) 48 j)) 44 (upd (upd (upd (mem 44) 6 0) 10 0) 12 0)) 51 (upd (upd (mem 51) 0 0) 1 0)) = some ((), rset (rset (rset mem 48 (fun j => if i ≤ j ∧ j < 12 ∨ j = 6 then laid (mem 46) (mem 48) j else mem 48 j)) 44 (upd (upd (upd (mem 44) 6 0) 10 0) 12 0)) 51 (upd (upd (mem 51) 0 0) 1 0)) := by
      intro v hv
      rw [wr_rset, rset_rset]
      refine congrArg (fun z => some ((), rset (rset z 44 _) 51 _)) (rset_ext (fun j => ?_))
      rw [rset_at]
      by_cases h1 : i + 1 ≤ j ∧ j < 12 ∨ j = 6
      · rw [if_pos h1, if_pos (by omega)]
        unfold laid
        by_cases q1 : j < 6
        · rw [if_pos q1, if_pos q1]
        · rw [if_neg q1, if_neg q1]
          by_cases q2 : j = 6
          · rw [if_pos q2, if_pos q2]
          · rw [if_neg q2, if_neg q2, if_pos (by omega), if_pos (by omega)]
      · rw [if_neg h1]
        by_cases h2 : j = i
        · subst h2
          rw [if_pos (by omega), ← hv]
          exact if_pos rfl
        · rw [if_neg (by omega)]
          exact if_neg h2
    by_cases h6 : 6 ≤ i
    · rw [f_X5_lays_2.eq_2, if_neg (show ¬ (12 : Int32) ≤ nI i from nI_ge (a := i) (b := 12) (by omega) (by omega)), if_pos (show (6 : Int32) ≤ nI i from nI_le (a := 6) (b := i) h6 (by omega)), zgd_t (zin_nI (by omega) (by omega)), zlet_e, nI_1, nI_clamp (by omega), ih n (i + 1) _ (by omega) (by omega)]
      by_cases h7 : i = 6
      · subst h7
        rw [wr_rset, rset_rset]
        refine congrArg (fun z => some ((), rset (rset z 44 _) 51 _)) (rset_ext (fun j => ?_))
        rw [rset_at]
        by_cases h1 : 6 + 1 ≤ j ∧ j < 12 ∨ j = 6
        · rw [if_pos h1, if_pos (by omega)]
          unfold laid
          have q1 : ¬ j < 6 := by omega
          rw [if_neg q1, if_neg q1]
          by_cases q2 : j = 6
          · rw [if_pos q2, if_pos q2]
            rfl
          · rw [if_neg q2, if_neg q2, if_pos (by omega), if_pos (by omega)]
        · rw [if_neg h1, if_neg (by omega)]
          exact if_neg (by omega)
      · exact fin 0 (by unfold laid; rw [if_neg (by omega), if_neg h7, if_pos (by omega)])
    · rw [f_X5_lays_2.eq_2, if_neg (show ¬ (12 : Int32) ≤ nI i from nI_ge (a := i) (b := 12) (by omega) (by omega)), if_neg (show ¬ (6 : Int32) ≤ nI i from nI_ge (a := i) (b := 6) (by omega) (by omega)), show (29 : Int32) + nI i = nI (29 + i) from nI_add 29 i, zgd_t (zin_nI (by omega) (by omega)), zgd_t (zin_nI (by omega) (by omega)), zlet_e, nI_1, nI_clamp (by omega), nI_clamp (by omega), ih n (i + 1) _ (by omega) (by omega)]
      exact fin (mem 46 (29 + i)) (by unfold laid; rw [if_pos (by omega)])
theorem lays_spec {N : Nat} (hN : 40 ≤ N) (mem : zMem) : f_X5_lays N mem = some ((), laysM mem) := by
  show f_X5_lays_2 N N mem (nI 0) = _
  rw [lays_loop N 12 N 0 mem (by omega) (by omega)]
  unfold laysM
  refine congrArg (fun z => some ((), rset (rset z 44 _) 51 _)) (rset_ext (fun j => ?_))
  by_cases h : j < 12
  · rw [if_pos (by omega)]
  · rw [if_neg (by omega)]
    unfold laid
    rw [if_neg (by omega), if_neg (by omega), if_neg h]
/-- the memory behind both constructors -/
def m01 : zMem := fun k => if k = 6 then (fun j => if j = 7 then 1 else 0) else if k = 46 then (fun j => if j = 3 then 1 else 0) else if k = 47 then (fun j => if j = 3 then 1 else 0) else fun _ => 0
theorem init_spec {N : Nat} (hN : 40 ≤ N) : f_X5_init N m00 = some ((), m01) := by
  unfold f_X5_init
  rw [zb_of (forgets_spec hN m00), zb_of (show f_X5_init_loop N _ (0 : Int32) = _ from init_loop 35 N 0 _ (by omega) (by omega)), lays_spec hN]
  refine congrArg (fun z => some ((), z)) ?_
  funext k
  unfold laysM
  by_cases h1 : k = 51
  · subst h1
    funext j
    simp [rset, upd, m00, m01]
  · by_cases h2 : k = 44
    · subst h2
      funext j
      simp [rset, upd, m00, m01]
    · by_cases h3 : k = 48
      · subst h3
        funext j
        simp [rset, m00, m01, laid]
        intros
        omega
      · by_cases h4 : k = 46
        · subst h4
          funext j
          simp [rset, m00, m01]
          by_cases h5 : j = 3
          · simp [h5]
          · simp [h5]
        · by_cases h5 : k = 47
          · subst h5
            funext j
            simp [rset, m00, m01]
          · simp [rset, m00, m01, h1, h2, h3, h4, h5]
