/-! THE TEXT: rows of letters, tokens, words and numbers; both sides' functions say these -/
def run (T : Nat → Nat) (lo hi : Nat) : Nat → Nat → Nat
  | 0, i => i
  | d + 1, i => if lo ≤ T i ∧ T i ≤ hi then run T lo hi d (i + 1) else i
theorem run_ge (T : Nat → Nat) (lo hi : Nat) : ∀ d i, i ≤ run T lo hi d i := by
  intro d
  induction d with
  | zero => intro i; exact Nat.le_refl _
  | succ d ih =>
    intro i
    unfold run
    have h := ih (i + 1)
    split <;> omega
theorem run_le (T : Nat → Nat) (lo hi : Nat) : ∀ d i, run T lo hi d i ≤ i + d := by
  intro d
  induction d with
  | zero => intro i; exact Nat.le_refl _
  | succ d ih =>
    intro i
    unfold run
    have h := ih (i + 1)
    split <;> omega
theorem run_all (T : Nat → Nat) (lo hi : Nat) : ∀ d i j, i ≤ j → j < run T lo hi d i → lo ≤ T j ∧ T j ≤ hi := by
  intro d
  induction d with
  | zero =>
    intro i j h1 h2
    exact absurd h2 (Nat.not_lt.mpr h1)
  | succ d ih =>
    intro i j h1 h2
    unfold run at h2
    by_cases q : lo ≤ T i ∧ T i ≤ hi
    · rw [if_pos q] at h2
      by_cases e : j = i
      · subst e
        exact q
      · exact ih (i + 1) j (by omega) h2
    · rw [if_neg q] at h2
      omega
def rn (T : Nat → Nat) (n lo hi i : Nat) : Nat := run T lo hi (n - i) i
theorem rn_end {T : Nat → Nat} {n lo hi i : Nat} (h : n ≤ i) : rn T n lo hi i = i := by
  unfold rn
  rw [Nat.sub_eq_zero_of_le h]
  rfl
theorem rn_go {T : Nat → Nat} {n lo hi i : Nat} (h : i < n) (q : lo ≤ T i ∧ T i ≤ hi) : rn T n lo hi i = rn T n lo hi (i + 1) := by
  unfold rn
  obtain ⟨d, hd⟩ : ∃ d, n - i = d + 1 := ⟨n - i - 1, by omega⟩
  rw [hd, show n - (i + 1) = d by omega]
  exact if_pos q
theorem rn_no {T : Nat → Nat} {n lo hi i : Nat} (q : ¬ (lo ≤ T i ∧ T i ≤ hi)) : rn T n lo hi i = i := by
  unfold rn
  by_cases h : n ≤ i
  · rw [Nat.sub_eq_zero_of_le h]
    rfl
  · obtain ⟨d, hd⟩ : ∃ d, n - i = d + 1 := ⟨n - i - 1, by omega⟩
    rw [hd]
    exact if_neg q
theorem rn_ge (T : Nat → Nat) (n lo hi i : Nat) : i ≤ rn T n lo hi i := run_ge T lo hi _ _
theorem rn_le {T : Nat → Nat} {n lo hi i : Nat} (h : i ≤ n) : rn T n lo hi i ≤ n := by
  have := run_le T lo hi (n - i) i
  unfold rn
  omega
theorem rn_all {T : Nat → Nat} {n lo hi i j : Nat} (h1 : i ≤ j) (h2 : j < rn T n lo hi i) : lo ≤ T j ∧ T j ≤ hi := run_all T lo hi _ _ _ h1 h2
/-- the sort of the token that begins at s: at the end 0, a word 1, a number 2, another letter 3; where it ends; its value -/
def tK (T : Nat → Nat) (n s : Nat) : Nat := if s < n then (if 97 ≤ T s ∧ T s ≤ 122 then 1 else if 48 ≤ T s ∧ T s ≤ 57 then 2 else 3) else 0
def tE (T : Nat → Nat) (n s : Nat) : Nat := if tK T n s = 1 then rn T n 97 122 s else if tK T n s = 2 then rn T n 48 57 s else if tK T n s = 3 then s + 1 else s
def vv (T : Nat → Nat) (s i : Nat) : Nat := if i ≤ s then 0 else if i = s + 1 then T s - 48 else if i = s + 2 then 10 * (T s - 48) + (T (s + 1) - 48) else 100
def tV (T : Nat → Nat) (n s : Nat) : Nat := if tK T n s = 2 then vv T s (rn T n 48 57 s) else 0
def tS (T : Nat → Nat) (n e : Nat) : Nat := rn T n 32 32 e
theorem tok_cases (T : Nat → Nat) (n s : Nat) : (n ≤ s ∧ tK T n s = 0 ∧ tE T n s = s ∧ tV T n s = 0) ∨ (s < n ∧ (97 ≤ T s ∧ T s ≤ 122) ∧ tK T n s = 1 ∧ tE T n s = rn T n 97 122 s ∧ s < rn T n 97 122 s ∧ tV T n s = 0) ∨ (s < n ∧ (48 ≤ T s ∧ T s ≤ 57) ∧ tK T n s = 2 ∧ tE T n s = rn T n 48 57 s ∧ s < rn T n 48 57 s ∧ tV T n s = vv T s (rn T n 48 57 s)) ∨ (s < n ∧ ¬ (97 ≤ T s ∧ T s ≤ 122) ∧ ¬ (48 ≤ T s ∧ T s ≤ 57) ∧ tK T n s = 3 ∧ tE T n s = s + 1 ∧ tV T n s = 0) := by
  by_cases h : s < n
  · by_cases q1 : 97 ≤ T s ∧ T s ≤ 122
    · have k : tK T n s = 1 := by unfold tK; rw [if_pos h, if_pos q1]
      refine Or.inr (Or.inl ⟨h, q1, k, ?_, ?_, ?_⟩)
      · unfold tE; rw [if_pos k]
      · rw [rn_go h q1]; exact rn_ge T n 97 122 (s + 1)
      · unfold tV; rw [k, if_neg (by decide)]
    · by_cases q2 : 48 ≤ T s ∧ T s ≤ 57
      · have k : tK T n s = 2 := by unfold tK; rw [if_pos h, if_neg q1, if_pos q2]
        refine Or.inr (Or.inr (Or.inl ⟨h, q2, k, ?_, ?_, ?_⟩))
        · unfold tE; rw [k, if_neg (by decide), if_pos rfl]
        · rw [rn_go h q2]; exact rn_ge T n 48 57 (s + 1)
        · unfold tV; rw [if_pos k]
      · have k : tK T n s = 3 := by unfold tK; rw [if_pos h, if_neg q1, if_neg q2]
        refine Or.inr (Or.inr (Or.inr ⟨h, q1, q2, k, ?_, ?_⟩))
        · unfold tE; rw [k, if_neg (by decide), if_neg (by decide), if_pos rfl]
        · unfold tV; rw [k, if_neg (by decide)]
  · have k : tK T n s = 0 := by unfold tK; rw [if_neg h]
    refine Or.inl ⟨by omega, k, ?_, ?_⟩
    · unfold tE; rw [k, if_neg (by decide), if_neg (by decide), if_neg (by decide)]
    · unfold tV; rw [k, if_neg (by decide)]
theorem tE_le {T : Nat → Nat} {n s : Nat} (h : s ≤ n) : tE T n s ≤ n := by
  rcases tok_cases T n s with ⟨a, b, c, d⟩ | ⟨a, b, c, d, e, f⟩ | ⟨a, b, c, d, e, f⟩ | ⟨a, b, c, d, e, f⟩
  · omega
  · rw [d]; exact rn_le h
  · rw [d]; exact rn_le h
  · omega
theorem tE_ge (T : Nat → Nat) (n s : Nat) : s ≤ tE T n s := by
  rcases tok_cases T n s with ⟨a, b, c, d⟩ | ⟨a, b, c, d, e, f⟩ | ⟨a, b, c, d, e, f⟩ | ⟨a, b, c, d, e, f⟩
  · omega
  · rw [d]; omega
  · rw [d]; omega
  · omega
theorem tS_le {T : Nat → Nat} {n e : Nat} (h : e ≤ n) : tS T n e ≤ n := rn_le h
theorem vv_le {T : Nat → Nat} {s i : Nat} (h1 : T s ≤ 57) (h2 : i = s + 2 → T (s + 1) ≤ 57) : vv T s i ≤ 100 := by
  unfold vv
  split
  · omega
  · split
    · omega
    · split
      · rename_i h
        have := h2 h
        omega
      · omega
theorem tV_le (T : Nat → Nat) (n s : Nat) : tV T n s ≤ 100 := by
  rcases tok_cases T n s with ⟨a, b, c, d⟩ | ⟨a, b, c, d, e, f⟩ | ⟨a, b, c, d, e, f⟩ | ⟨a, b, c, d, e, f⟩
  · omega
  · omega
  · rw [f]
    exact vv_le b.2 (fun q => (rn_all (T := T) (n := n) (lo := 48) (hi := 57) (i := s) (by omega) (by omega)).2)
  · omega
def RTc (mem : zMem) (n : Nat) (T : Nat → Nat) : Prop := n ≤ 160 ∧ mem 1 4 = nI n ∧ ∀ j, j < n → T j ≤ 255 ∧ mem 2 j = nI (T j)
def RTm (mem : zMem) (n : Nat) (T : Nat → Nat) : Prop := n ≤ 160 ∧ mem 44 1 = nI n ∧ ∀ j, j < n → T j ≤ 255 ∧ mem 45 j = nI (T j)
theorem RTc.fr {mem mem' : zMem} {n : Nat} {T : Nat → Nat} (h : RTc mem n T) (h1 : mem' 1 4 = mem 1 4) (h2 : mem' 2 = mem 2) : RTc mem' n T := ⟨h.1, by rw [h1]; exact h.2.1, fun j hj => by rw [h2]; exact h.2.2 j hj⟩
theorem RTm.fr {mem mem' : zMem} {n : Nat} {T : Nat → Nat} (h : RTm mem n T) (h1 : mem' 44 1 = mem 44 1) (h2 : mem' 45 = mem 45) : RTm mem' n T := ⟨h.1, by rw [h1]; exact h.2.1, fun j hj => by rw [h2]; exact h.2.2 j hj⟩
theorem wn4 {N : Nat} {mem : zMem} {a lo hi : Nat} (ha : a < 2 ^ 31) (hl : lo < 2 ^ 31) (hh : hi < 2 ^ 31) : f_X4_isWithin N mem (nI a) (nI lo) (nI hi) = some (if lo ≤ a ∧ a ≤ hi then 1 else 0, mem) := by
  by_cases q : lo ≤ a ∧ a ≤ hi
  · rw [w4_in (fun z => z.elim (nI_nlt q.1 ha) (nI_nlt q.2 hh)), if_pos q]
  · rw [if_neg q]
    refine w4_out ?_
    by_cases q1 : a < lo
    · exact Or.inl (nI_lt q1 hl)
    · exact Or.inr (nI_lt (by omega) ha)
theorem wn5 {N : Nat} {mem : zMem} {a lo hi : Nat} (ha : a < 2 ^ 31) (hl : lo < 2 ^ 31) (hh : hi < 2 ^ 31) : f_X5_in N mem (nI a) (nI lo) (nI hi) = some (if lo ≤ a ∧ a ≤ hi then 1 else 0, mem) := by
  by_cases q : lo ≤ a ∧ a ≤ hi
  · rw [w5_in (fun z => z.elim (nI_nlt q.1 ha) (nI_nlt q.2 hh)), if_pos q]
  · rw [if_neg q]
    refine w5_out ?_
    by_cases q1 : a < lo
    · exact Or.inl (nI_lt q1 hl)
    · exact Or.inr (nI_lt (by omega) ha)
section GF
variable {N : Nat} {n : Nat} {T : Nat → Nat}
theorem eor4_loop {mem : zMem} (hT : RTc mem n T) {lo up : Nat} (hl : lo < 2 ^ 31) (hh : up < 2 ^ 31) : ∀ (d fu i : Nat), i + d = n → d < fu → f_X2_endOfRow_3 N fu mem (nI lo) (nI up) (nI i) = some (nI (rn T n lo up i), mem) := by
  have hn := hT.1
  intro d
  induction d with
  | zero =>
    intro fu i hi hf
    obtain ⟨fu, rfl⟩ : ∃ n', fu = n' + 1 := ⟨fu - 1, by omega⟩
    rw [f_X2_endOfRow_3.eq_2, hT.2.1, if_pos (nI_le (by omega) (by omega)), rn_end (by omega)]
  | succ d ih =>
    intro fu i hi hf
    obtain ⟨fu, rfl⟩ : ∃ n', fu = n' + 1 := ⟨fu - 1, by omega⟩
    obtain ⟨t1, t2⟩ := hT.2.2 i (by omega)
    rw [f_X2_endOfRow_3.eq_2, hT.2.1, if_neg (nI_ge (by omega) (by omega)), zgd_t (zin_nI (by omega) (by omega)), nI_clamp (by omega), t2, zb_of (wn4 (by omega) hl hh)]
    by_cases q : lo ≤ T i ∧ T i ≤ up
    · rw [if_pos q, if_neg (by decide), nI_1, ih fu (i + 1) (by omega) (by omega), rn_go (by omega) q]
    · rw [if_neg q, if_pos rfl, rn_no q]
theorem eor4 {mem : zMem} (hT : RTc mem n T) (hN : 300 ≤ N) {lo up i : Nat} (hl : lo < 2 ^ 31) (hh : up < 2 ^ 31) (hi : i ≤ n) : f_X2_endOfRow N mem (nI i) (nI lo) (nI up) = some (nI (rn T n lo up i), mem) := by
  have := hT.1
  exact eor4_loop hT hl hh (n - i) N i (by omega) (by omega)
theorem nt4 {mem : zMem} (hT : RTc mem n T) (hN : 300 ≤ N) {e : Nat} (he : e ≤ n) (h7 : mem 1 7 = nI e) : ∃ mem' : zMem, f_X2_nextToken N mem = some ((), mem') ∧ mem' 1 6 = nI (tS T n e) ∧ mem' 1 7 = nI (tE T n (tS T n e)) ∧ (∀ k, k ≠ 1 → mem' k = mem k) ∧ ∀ j, j ≠ 6 → j ≠ 7 → mem' 1 j = mem 1 j := by
  have hn := hT.1
  have hs : tS T n e ≤ n := tS_le he
  generalize hsd : tS T n e = s at hs
  have q0 : f_X2_endOfRow N mem (nI e) (32 : Int32) (32 : Int32) = some (nI s, mem) := by
    rw [← hsd]
    exact eor4 (lo := 32) (up := 32) hT hN (by omega) (by omega) he
  unfold f_X2_nextToken
  rw [h7, zb_of q0, zlet_e]
  have r1 : RTc (wr mem 1 6 (nI s)) n T := hT.fr (by rw [wr_at, upd_ne (by decide)]) (by rw [wr_ne (by decide)])
  have q1 : f_X2_endOfRow N (wr mem 1 6 (nI s)) (nI s) (97 : Int32) (122 : Int32) = some (nI (rn T n 97 122 s), wr mem 1 6 (nI s)) := eor4 (lo := 97) (up := 122) r1 hN (by omega) (by omega) hs
  have g6 : (wr mem 1 6 (nI s)) 1 6 = nI s := by rw [wr_at, upd_at]
  rw [g6, zb_of q1, zlet_e]
  have l1 := rn_le (T := T) (lo := 97) (hi := 122) hs
  have l2 := rn_le (T := T) (lo := 48) (hi := 57) hs
  have hN' : ∀ x : Int32, ∀ (m : zMem), m 1 4 = nI n → m 1 6 = nI s → ∀ e', m 1 7 = nI e' → e' ≤ n → f_X2_nextToken_59 N m = some ((), if e' = s ∧ s < n then wr m 1 7 (nI (s + 1)) else m) := by
    intro x m m4 m6 e' m7 le
    unfold f_X2_nextToken_59
    rw [m4, m6, m7]
    by_cases c : e' = s
    · rw [if_pos (by rw [c])]
      by_cases c2 : n ≤ s
      · rw [if_pos (nI_le c2 (by omega)), if_neg (by omega)]
      · rw [if_neg (nI_ge (by omega) (by omega)), if_pos ⟨c, by omega⟩, zlet_e, c, nI_1]
    · rw [if_neg (fun z => c ((nI_eq (by omega) (by omega)).mp z)), if_neg (fun z => c z.1)]
  have fin : ∀ (m : zMem) (e' : Nat), m 1 6 = nI s → m 1 7 = nI e' → (∀ k, k ≠ 1 → m k = mem k) → (∀ j, j ≠ 6 → j ≠ 7 → m 1 j = mem 1 j) → e' ≤ n → (if e' = s ∧ s < n then s + 1 else e') = tE T n s → ∃ mem' : zMem, f_X2_nextToken_59 N m = some ((), mem') ∧ mem' 1 6 = nI s ∧ mem' 1 7 = nI (tE T n s) ∧ (∀ k, k ≠ 1 → mem' k = mem k) ∧ ∀ j, j ≠ 6 → j ≠ 7 → mem' 1 j = mem 1 j := by
    intro m e' m6 m7 fr1 fr2 le hE
    refine ⟨_, hN' 0 m (by rw [fr2 4 (by decide) (by decide)]; exact hT.2.1) m6 e' m7 le, ?_⟩
    rw [← hE]
    by_cases c : e' = s ∧ s < n
    · rw [if_pos c, if_pos c]
      refine ⟨?_, ?_, ?_, ?_⟩
      · rw [wr_at, upd_ne (by decide)]; exact m6
      · rw [wr_at, upd_at]
      · intro k hk; rw [wr_ne hk]; exact fr1 k hk
      · intro j h6 h7; rw [wr_at, upd_ne h7]; exact fr2 j h6 h7
    · rw [if_neg c, if_neg c]
      exact ⟨m6, m7, fr1, fr2⟩
  have fr1 : ∀ v w : Int32, ∀ k, k ≠ 1 → wr (wr mem 1 6 v) 1 7 w k = mem k := fun v w k hk => by rw [wr_ne hk, wr_ne hk]
  have fr2 : ∀ v w : Int32, ∀ j, j ≠ 6 → j ≠ 7 → wr (wr mem 1 6 v) 1 7 w 1 j = mem 1 j := fun v w j h6 h7 => by rw [wr_at, upd_ne h7, wr_at, upd_ne h6]
  have g7 : ∀ v w : Int32, wr (wr mem 1 6 v) 1 7 w 1 7 = w := fun v w => by rw [wr_at, upd_at]
  have g62 : ∀ v w : Int32, wr (wr mem 1 6 v) 1 7 w 1 6 = v := fun v w => by rw [wr_at, upd_ne (by decide), wr_at, upd_at]
  rw [g7, g62]
  rcases tok_cases T n s with ⟨a, b, c, d⟩ | ⟨a, b, c, d, e2, f⟩ | ⟨a, b, c, d, e2, f⟩ | ⟨a, b, b2, c, d, f⟩
  · have w1 : rn T n 97 122 s = s := rn_end a
    have w2 : rn T n 48 57 s = s := rn_end a
    rw [w1, if_pos rfl]
    have r2 : RTc (wr (wr mem 1 6 (nI s)) 1 7 (nI s)) n T := hT.fr (fr2 _ _ 4 (by decide) (by decide)) (fr1 _ _ 2 (by decide))
    have q2 : f_X2_endOfRow N (wr (wr mem 1 6 (nI s)) 1 7 (nI s)) (nI s) (48 : Int32) (57 : Int32) = some (nI (rn T n 48 57 s), wr (wr mem 1 6 (nI s)) 1 7 (nI s)) := eor4 (lo := 48) (up := 57) r2 hN (by omega) (by omega) hs
    rw [zb_of q2, zlet_e, w2]
    refine fin _ s ?_ ?_ ?_ ?_ hs ?_
    · rw [wr_at, upd_ne (by decide)]; exact g62 _ _
    · rw [wr_at, upd_at]
    · intro k hk; rw [wr_ne hk]; exact fr1 _ _ k hk
    · intro j h6 h7; rw [wr_at, upd_ne h7]; exact fr2 _ _ j h6 h7
    · rw [if_neg (by omega), c]
  · rw [if_neg (fun z => by have := (nI_eq (by omega) (by omega)).mp z; omega)]
    refine fin _ _ (g62 _ _) (g7 _ _) (fr1 _ _) (fr2 _ _) l1 ?_
    rw [if_neg (by omega), d]
  · have w1 : rn T n 97 122 s = s := rn_no (by omega)
    rw [w1, if_pos rfl]
    have r2 : RTc (wr (wr mem 1 6 (nI s)) 1 7 (nI s)) n T := hT.fr (fr2 _ _ 4 (by decide) (by decide)) (fr1 _ _ 2 (by decide))
    have q2 : f_X2_endOfRow N (wr (wr mem 1 6 (nI s)) 1 7 (nI s)) (nI s) (48 : Int32) (57 : Int32) = some (nI (rn T n 48 57 s), wr (wr mem 1 6 (nI s)) 1 7 (nI s)) := eor4 (lo := 48) (up := 57) r2 hN (by omega) (by omega) hs
    rw [zb_of q2, zlet_e]
    refine fin _ (rn T n 48 57 s) ?_ ?_ ?_ ?_ l2 ?_
    · rw [wr_at, upd_ne (by decide)]; exact g62 _ _
    · rw [wr_at, upd_at]
    · intro k hk; rw [wr_ne hk]; exact fr1 _ _ k hk
    · intro j h6 h7; rw [wr_at, upd_ne h7]; exact fr2 _ _ j h6 h7
    · rw [if_neg (by omega), d]
  · have w1 : rn T n 97 122 s = s := rn_no b
    have w2 : rn T n 48 57 s = s := rn_no b2
    rw [w1, if_pos rfl]
    have r2 : RTc (wr (wr mem 1 6 (nI s)) 1 7 (nI s)) n T := hT.fr (fr2 _ _ 4 (by decide) (by decide)) (fr1 _ _ 2 (by decide))
    have q2 : f_X2_endOfRow N (wr (wr mem 1 6 (nI s)) 1 7 (nI s)) (nI s) (48 : Int32) (57 : Int32) = some (nI (rn T n 48 57 s), wr (wr mem 1 6 (nI s)) 1 7 (nI s)) := eor4 (lo := 48) (up := 57) r2 hN (by omega) (by omega) hs
    rw [zb_of q2, zlet_e, w2]
    refine fin _ s ?_ ?_ ?_ ?_ hs ?_
    · rw [wr_at, upd_ne (by decide)]; exact g62 _ _
    · rw [wr_at, upd_at]
    · intro k hk; rw [wr_ne hk]; exact fr1 _ _ k hk
    · intro j h6 h7; rw [wr_at, upd_ne h7]; exact fr2 _ _ j h6 h7
    · rw [if_pos ⟨rfl, a⟩, d]
theorem la5 {mem : zMem} (hT : RTm mem n T) {i : Nat} (hi : i ≤ n) : f_X5_letterAt N mem (nI i) = some (if i < n then nI (T i) else -1, mem) := by
  have hn := hT.1
  unfold f_X5_letterAt
  rw [hT.2.1]
  by_cases h : i < n
  · rw [if_neg (nI_ge h (by omega)), zgd_t (zin_nI (by omega) (by omega)), nI_clamp (by omega), (hT.2.2 i h).2, if_pos h]
  · rw [if_pos (nI_le (by omega) (by omega)), if_neg h]
theorem isLet5 {mem : zMem} {a : Nat} (ha : a < 2 ^ 31) : f_X5_isLetter N mem (nI a) = some (if 97 ≤ a ∧ a ≤ 122 then 1 else 0, mem) := by
  unfold f_X5_isLetter
  rw [zb_of (show f_X5_in N mem (nI a) (97 : Int32) (122 : Int32) = _ from wn5 (lo := 97) (hi := 122) ha (by omega) (by omega))]
  split <;> rfl
theorem isDig5 {mem : zMem} {a : Nat} (ha : a < 2 ^ 31) : f_X5_isDigit N mem (nI a) = some (if 48 ≤ a ∧ a ≤ 57 then 1 else 0, mem) := by
  unfold f_X5_isDigit
  rw [zb_of (show f_X5_in N mem (nI a) (48 : Int32) (57 : Int32) = _ from wn5 (lo := 48) (hi := 57) ha (by omega) (by omega))]
  split <;> rfl
/-- what a token leaves behind on the reference's side -/
def T5 (T : Nat → Nat) (n s : Nat) (mem mem' : zMem) : Prop := mem' 44 13 = nI (tE T n s) ∧ mem' 44 14 = nI (tK T n s) ∧ mem' 44 15 = nI s ∧ mem' 44 16 = nI (tV T n s) ∧ (∀ k, k ≠ 44 → mem' k = mem k) ∧ ∀ j, j < 13 ∨ 16 < j → mem' 44 j = mem 44 j
theorem dig_no {mem : zMem} (hT : RTm mem n T) {i : Nat} (hi : i ≤ n) (h : ¬ (i < n ∧ 48 ≤ T i ∧ T i ≤ 57)) : zb (f_X5_letterAt N mem (nI i)) (fun r mem => f_X5_isDigit N mem r) = some ((0 : Int32), mem) := by
  have hn := hT.1
  rw [zb_of (la5 hT hi)]
  by_cases c : i < n
  · have := (hT.2.2 i c).1
    rw [if_pos c, isDig5 (by omega), if_neg (by omega)]
  · rw [if_neg c]
    rfl
theorem let_no {mem : zMem} (hT : RTm mem n T) {i : Nat} (hi : i ≤ n) (h : ¬ (i < n ∧ 97 ≤ T i ∧ T i ≤ 122)) : zb (f_X5_letterAt N mem (nI i)) (fun r mem => f_X5_isLetter N mem r) = some ((0 : Int32), mem) := by
  have hn := hT.1
  rw [zb_of (la5 hT hi)]
  by_cases c : i < n
  · have := (hT.2.2 i c).1
    rw [if_pos c, isLet5 (by omega), if_neg (by omega)]
  · rw [if_neg c]
    rfl
theorem zb_zb {α β γ : Type} {x : Option (α × zMem)} {f : α → zMem → Option (β × zMem)} {k : β → zMem → Option γ} : zb x (fun r m => zb (f r m) k) = zb (zb x f) k := by
  cases x with
  | none => rfl
  | some z => rfl
theorem t195 {mem : zMem} {k i : Nat} (hk : k < 4) (h14 : mem 44 14 = nI k) (h13 : mem 44 13 = nI i) : ∃ mem' : zMem, f_X5_token_195 N mem = some ((), mem') ∧ mem' = rset mem 44 (upd (mem 44) 13 (nI (if k = 3 then i + 1 else i))) := by
  refine ⟨_, ?_, rfl⟩
  unfold f_X5_token_195
  rw [h14, h13]
  by_cases c : k = 3
  · rw [if_pos (by rw [c]; rfl), if_pos c, zlet_e, nI_1, wr_rset]
  · rw [if_neg (show ¬ nI k = (3 : Int32) from fun z => c ((nI_eq (by omega) (by omega)).mp (show nI k = nI 3 from z))), if_neg c, zlet_e, show nI i + (0 : Int32) = nI i from nI_add i 0, wr_rset]
theorem t118 {s k : Nat} (hk : k < 4) (hs : s ≤ n) : ∀ (d fu i : Nat) (mem : zMem), RTm mem n T → i + d = n → d < fu → s ≤ i → mem 44 13 = nI i → mem 44 14 = nI k → mem 44 15 = nI s → (k = 2 → mem 44 16 = nI (vv T s i) ∧ ∀ j, s ≤ j → j < i → 48 ≤ T j ∧ T j ≤ 57) → ∃ mem' : zMem, f_X5_token_118 N fu mem = some ((), mem') ∧ mem' 44 13 = nI (if k = 2 then rn T n 48 57 i else if k = 3 then i + 1 else i) ∧ mem' 44 14 = nI k ∧ mem' 44 15 = nI s ∧ (mem' 44 16 = if k = 2 then nI (vv T s (rn T n 48 57 i)) else mem 44 16) ∧ (∀ k, k ≠ 44 → mem' k = mem k) ∧ ∀ j, j < 13 ∨ 16 < j → mem' 44 j = mem 44 j := by
  intro d
  induction d with
  | zero =>
    intro fu i mem hT hi hf hsi h13 h14 h15 h16
    obtain ⟨fu, rfl⟩ : ∃ n', fu = n' + 1 := ⟨fu - 1, by omega⟩
    have hn := hT.1
    obtain ⟨m', e1, e2⟩ := t195 (N := N) hk h14 h13
    refine ⟨m', ?_, ?_⟩
    · rw [f_X5_token_118.eq_2]
      by_cases c : mem 44 14 = (2 : Int32)
      · rw [if_pos c, h13, zb_zb, zb_of (dig_no hT (by omega) (by omega)), if_pos rfl]
        exact e1
      · rw [if_neg c]
        exact e1
    · subst e2
      refine ⟨?_, ?_, ?_, ?_, ?_, ?_⟩
      · rw [rset_at, upd_at, rn_end (by omega)]
        by_cases c : k = 2
        · rw [if_pos c, if_neg (by omega)]
        · rw [if_neg c]
      · rw [rset_at, upd_ne (by decide)]; exact h14
      · rw [rset_at, upd_ne (by decide)]; exact h15
      · rw [rset_at, upd_ne (by decide), rn_end (by omega)]
        by_cases c : k = 2
        · rw [if_pos c]; exact (h16 c).1
        · rw [if_neg c]
      · intro k hk; exact rset_ne hk
      · intro j hj; rw [rset_at, upd_ne (by omega)]
  | succ d ih =>
    intro fu i mem hT hi hf hsi h13 h14 h15 h16
    obtain ⟨fu, rfl⟩ : ∃ n', fu = n' + 1 := ⟨fu - 1, by omega⟩
    have hn := hT.1
    by_cases c : k = 2 ∧ 48 ≤ T i ∧ T i ≤ 57
    · obtain ⟨c1, c2⟩ := c
      obtain ⟨v1, v2⟩ := h16 c1
      have h14' : mem 44 14 = (2 : Int32) := by rw [h14, c1]; rfl
      obtain ⟨t1, t2⟩ := hT.2.2 i (by omega)
      rw [f_X5_token_118.eq_2, if_pos h14', h13, zb_of (la5 hT (by omega)), if_pos (by omega), zb_of (isDig5 (by omega)), if_pos c2, if_neg (by decide), h13, h15, pk_sub hsi]
      have key : ∀ m : zMem, m 44 16 = nI (vv T s (i + 1)) → m 44 13 = nI (i + 1) → m 44 14 = nI k → m 44 15 = nI s → (∀ k, k ≠ 44 → m k = mem k) → (∀ j, j < 13 ∨ 16 < j → m 44 j = mem 44 j) → ∃ mem' : zMem, f_X5_token_118 N fu m = some ((), mem') ∧ mem' 44 13 = nI (if k = 2 then rn T n 48 57 i else if k = 3 then i + 1 else i) ∧ mem' 44 14 = nI k ∧ mem' 44 15 = nI s ∧ (mem' 44 16 = if k = 2 then nI (vv T s (rn T n 48 57 i)) else mem 44 16) ∧ (∀ k, k ≠ 44 → mem' k = mem k) ∧ ∀ j, j < 13 ∨ 16 < j → mem' 44 j = mem 44 j := by
        intro m m16 m13 m14 m15 f1 f2
        obtain ⟨m', e1, e2, e3, e4, e5, e6, e7⟩ := ih fu (i + 1) m (hT.fr (f2 1 (by omega)) (f1 45 (by decide))) (by omega) (by omega) (by omega) m13 m14 m15 (fun _ => ⟨m16, fun j h1 h2 => by
          by_cases hj : j = i
          · subst hj; exact c2
          · exact v2 j h1 (by omega)⟩)
        refine ⟨m', e1, ?_, e3, e4, ?_, fun k hk => (e6 k hk).trans (f1 k hk), fun j hj => (e7 j hj).trans (f2 j hj)⟩
        · rw [e2, if_pos c1, if_pos c1, rn_go (by omega) c2]
        · rw [e5, if_pos c1, if_pos c1, rn_go (by omega) c2]
      by_cases c3 : 2 ≤ i - s
      · rw [if_pos (show (2 : Int32) ≤ nI (i - s) from nI_le (a := 2) (b := i - s) c3 (by omega)), zlet_e, zlet_e]
        refine key _ ?_ ?_ ?_ ?_ ?_ ?_
        · rw [wr_at, upd_ne (by decide), wr_at, upd_at]
          unfold vv
          rw [if_neg (by omega), if_neg (by omega), if_neg (by omega)]
          rfl
        · rw [wr_at, upd_at, wr_at, upd_ne (by decide), h13, nI_1]
        · rw [wr_at, upd_ne (by decide), wr_at, upd_ne (by decide)]; exact h14
        · rw [wr_at, upd_ne (by decide), wr_at, upd_ne (by decide)]; exact h15
        · intro k hk; rw [wr_ne hk, wr_ne hk]
        · intro j hj; rw [wr_at, upd_ne (by omega), wr_at, upd_ne (by omega)]
      · rw [if_neg (show ¬ (2 : Int32) ≤ nI (i - s) from nI_ge (a := i - s) (b := 2) (by omega) (by omega)), zgd_t (zin_nI (by omega) (by omega)), zlet_e, zlet_e]
        refine key _ ?_ ?_ ?_ ?_ ?_ ?_
        · rw [wr_at, upd_ne (by decide), wr_at, upd_at, v1, nI_clamp (by omega), t2, show (10 : Int32) = nI 10 from rfl, pk_mul, nI_add, show (48 : Int32) = nI 48 from rfl, pk_sub (by omega)]
          refine congrArg nI ?_
          unfold vv
          by_cases c4 : i = s
          · subst c4
            rw [if_pos (Nat.le_refl _), if_neg (by omega), if_pos rfl]
            omega
          · obtain rfl : i = s + 1 := by omega
            rw [if_neg (by omega), if_pos rfl, if_neg (by omega), if_neg (by omega), if_pos rfl]
            omega
        · rw [wr_at, upd_at, wr_at, upd_ne (by decide), h13, nI_1]
        · rw [wr_at, upd_ne (by decide), wr_at, upd_ne (by decide)]; exact h14
        · rw [wr_at, upd_ne (by decide), wr_at, upd_ne (by decide)]; exact h15
        · intro k hk; rw [wr_ne hk, wr_ne hk]
        · intro j hj; rw [wr_at, upd_ne (by omega), wr_at, upd_ne (by omega)]
    · obtain ⟨m', e1, e2⟩ := t195 (N := N) hk h14 h13
      refine ⟨m', ?_, ?_⟩
      · rw [f_X5_token_118.eq_2]
        by_cases c5 : k = 2
        · rw [if_pos (by rw [h14, c5]; rfl), h13, zb_zb, zb_of (dig_no hT (by omega) (fun z => c ⟨c5, z.2⟩)), if_pos rfl]
          exact e1
        · rw [if_neg (show ¬ mem 44 14 = (2 : Int32) from fun z => c5 ((nI_eq (by omega) (by omega)).mp (show nI k = nI 2 from h14.symm.trans z)))]
          exact e1
      · subst e2
        refine ⟨?_, ?_, ?_, ?_, ?_, ?_⟩
        · rw [rset_at, upd_at]
          by_cases c5 : k = 2
          · rw [if_pos c5, if_neg (by omega), rn_no (fun z => c ⟨c5, z⟩)]
          · rw [if_neg c5]
        · rw [rset_at, upd_ne (by decide)]; exact h14
        · rw [rset_at, upd_ne (by decide)]; exact h15
        · rw [rset_at, upd_ne (by decide)]
          by_cases c5 : k = 2
          · rw [if_pos c5, rn_no (fun z => c ⟨c5, z⟩)]; exact (h16 c5).1
          · rw [if_neg c5]
        · intro k hk; exact rset_ne hk
        · intro j hj; rw [rset_at, upd_ne (by omega)]
theorem t83 (hN : 300 ≤ N) {s k : Nat} (hk : k < 4) (hs : s ≤ n) : ∀ (d fu i : Nat) (mem : zMem), RTm mem n T → i + d = n → d < fu → s ≤ i → (k ≠ 1 → i = s) → mem 44 13 = nI i → mem 44 14 = nI k → mem 44 15 = nI s → mem 44 16 = 0 → ∃ mem' : zMem, f_X5_token_83 N fu mem = some ((), mem') ∧ mem' 44 13 = nI (if k = 1 then rn T n 97 122 i else if k = 2 then rn T n 48 57 i else if k = 3 then i + 1 else i) ∧ mem' 44 14 = nI k ∧ mem' 44 15 = nI s ∧ (mem' 44 16 = if k = 2 then nI (vv T s (rn T n 48 57 i)) else 0) ∧ (∀ k, k ≠ 44 → mem' k = mem k) ∧ ∀ j, j < 13 ∨ 16 < j → mem' 44 j = mem 44 j := by
  have stop : ∀ (i : Nat) (mem : zMem), RTm mem n T → i ≤ n → s ≤ i → (k ≠ 1 → i = s) → (k = 1 → rn T n 97 122 i = i) → mem 44 13 = nI i → mem 44 14 = nI k → mem 44 15 = nI s → mem 44 16 = 0 → ∃ mem' : zMem, f_X5_token_118 N N mem = some ((), mem') ∧ mem' 44 13 = nI (if k = 1 then rn T n 97 122 i else if k = 2 then rn T n 48 57 i else if k = 3 then i + 1 else i) ∧ mem' 44 14 = nI k ∧ mem' 44 15 = nI s ∧ (mem' 44 16 = if k = 2 then nI (vv T s (rn T n 48 57 i)) else 0) ∧ (∀ k, k ≠ 44 → mem' k = mem k) ∧ ∀ j, j < 13 ∨ 16 < j → mem' 44 j = mem 44 j := by
    intro i mem hT hi hsi h1 hr h13 h14 h15 h16
    have hn := hT.1
    obtain ⟨m', e1, e2, e3, e4, e5, e6, e7⟩ := t118 (N := N) (T := T) hk hs (n - i) N i mem hT (by omega) (by omega) hsi h13 h14 h15 (fun c => by
      have := h1 (by omega)
      subst this
      refine ⟨?_, fun j a b => by omega⟩
      rw [h16]
      unfold vv
      rw [if_pos (Nat.le_refl _)]
      rfl)
    refine ⟨m', e1, ?_, e3, e4, by rw [e5, h16], e6, e7⟩
    rw [e2]
    by_cases c : k = 1
    · rw [if_pos c, hr c, if_neg (by omega), if_neg (by omega)]
    · rw [if_neg c]
  intro d
  induction d with
  | zero =>
    intro fu i mem hT hi hf hsi h1 h13 h14 h15 h16
    obtain ⟨fu, rfl⟩ : ∃ n', fu = n' + 1 := ⟨fu - 1, by omega⟩
    obtain ⟨m', e1, e2⟩ := stop i mem hT (by omega) hsi h1 (fun _ => rn_end (by omega)) h13 h14 h15 h16
    refine ⟨m', ?_, e2⟩
    rw [f_X5_token_83.eq_2]
    by_cases c : mem 44 14 = (1 : Int32)
    · rw [if_pos c, h13, zb_zb, zb_of (let_no hT (by omega) (by omega)), if_pos rfl]
      exact e1
    · rw [if_neg c]
      exact e1
  | succ d ih =>
    intro fu i mem hT hi hf hsi h1 h13 h14 h15 h16
    obtain ⟨fu, rfl⟩ : ∃ n', fu = n' + 1 := ⟨fu - 1, by omega⟩
    have hn := hT.1
    by_cases c : k = 1 ∧ 97 ≤ T i ∧ T i ≤ 122
    · obtain ⟨c1, c2⟩ := c
      obtain ⟨t1, t2⟩ := hT.2.2 i (by omega)
      have f1 : ∀ v : Int32, ∀ k, k ≠ 44 → wr mem 44 13 v k = mem k := fun v k hk => wr_ne hk
      have f2 : ∀ v : Int32, ∀ j, j ≠ 13 → wr mem 44 13 v 44 j = mem 44 j := fun v j hj => by rw [wr_at, upd_ne hj]
      obtain ⟨m', e1, e2, e3, e4, e5, e6, e7⟩ := ih fu (i + 1) (wr mem 44 13 (nI (i + 1))) (hT.fr (f2 _ 1 (by omega)) (f1 _ 45 (by decide))) (by omega) (by omega) (by omega) (fun z => absurd c1 z) (by rw [wr_at, upd_at]) (by rw [f2 _ 14 (by decide)]; exact h14) (by rw [f2 _ 15 (by decide)]; exact h15) (by rw [f2 _ 16 (by decide)]; exact h16)
      refine ⟨m', ?_, ?_, e3, e4, ?_, fun k hk => (e6 k hk).trans (f1 _ k hk), fun j hj => (e7 j hj).trans (f2 _ j (by omega))⟩
      · rw [f_X5_token_83.eq_2, if_pos (by rw [h14, c1]; rfl), h13, zb_of (la5 hT (by omega)), if_pos (by omega), zb_of (isLet5 (by omega)), if_pos c2, if_neg (by decide), zlet_e, h13, nI_1]
        exact e1
      · rw [e2, if_pos c1, if_pos c1, rn_go (by omega) c2]
      · rw [e5, if_neg (by omega), if_neg (by omega)]
    · obtain ⟨m', e1, e2⟩ := stop i mem hT (by omega) hsi h1 (fun c1 => rn_no (fun z => c ⟨c1, z⟩)) h13 h14 h15 h16
      refine ⟨m', ?_, e2⟩
      rw [f_X5_token_83.eq_2]
      by_cases c5 : k = 1
      · rw [if_pos (by rw [h14, c5]; rfl), h13, zb_zb, zb_of (let_no hT (by omega) (fun z => c ⟨c5, z.2⟩)), if_pos rfl]
        exact e1
      · rw [if_neg (show ¬ mem 44 14 = (1 : Int32) from fun z => c5 ((nI_eq (by omega) (by omega)).mp (show nI k = nI 1 from h14.symm.trans z)))]
        exact e1
theorem t75 (hN : 300 ≤ N) {s : Nat} (hs : s ≤ n) {mem : zMem} (hT : RTm mem n T) (h13 : mem 44 13 = nI s) (h15 : mem 44 15 = nI s) : ∃ mem' : zMem, f_X5_token_75 N mem (nI (tK T n s)) = some ((), mem') ∧ T5 T n s mem mem' := by
  have hn := hT.1
  have hk : tK T n s < 4 := by
    rcases tok_cases T n s with ⟨a, b, c, d⟩ | ⟨a, b, c, d, e, f⟩ | ⟨a, b, c, d, e, f⟩ | ⟨a, b, b2, c, d, f⟩ <;> omega
  have g : ∀ j, j ≠ 14 → j ≠ 16 → wr (wr mem 44 14 (nI (tK T n s))) 44 16 0 44 j = mem 44 j := fun j h1 h2 => by rw [wr_at, upd_ne h2, wr_at, upd_ne h1]
  have f1 : ∀ k, k ≠ 44 → wr (wr mem 44 14 (nI (tK T n s))) 44 16 0 k = mem k := fun k hk => by rw [wr_ne hk, wr_ne hk]
  obtain ⟨m', e1, e2, e3, e4, e5, e6, e7⟩ := t83 hN hk hs (n - s) N s (wr (wr mem 44 14 (nI (tK T n s))) 44 16 0) (hT.fr (g 1 (by decide) (by decide)) (f1 45 (by decide))) (by omega) (by omega) (Nat.le_refl _) (fun _ => rfl) (by rw [g 13 (by decide) (by decide)]; exact h13) (by rw [wr_at, upd_ne (by decide), wr_at, upd_at]) (by rw [g 15 (by decide) (by decide)]; exact h15) (by rw [wr_at, upd_at])
  refine ⟨m', ?_, e2, e3, e4, ?_, fun k hk => (e6 k hk).trans (f1 k hk), fun j hj => (e7 j hj).trans (g j (by omega) (by omega))⟩
  · unfold f_X5_token_75
    rw [zlet_e, zlet_e]
    exact e1
  · rw [e5]
    unfold tV
    split
    · rfl
    · rfl
theorem tok5_loop (hN : 300 ≤ N) : ∀ (d fu i : Nat) (mem : zMem), RTm mem n T → i + d = n → d < fu → mem 44 13 = nI i → ∃ mem' : zMem, f_X5_token_0 N fu mem = some ((), mem') ∧ T5 T n (tS T n i) mem mem' := by
  have stop : ∀ (fu i : Nat) (mem : zMem), RTm mem n T → i ≤ n → mem 44 13 = nI i → ¬ (i < n ∧ T i = 32) → tS T n i = i → ∃ mem' : zMem, f_X5_token_0 N (fu + 1) mem = some ((), mem') ∧ T5 T n (tS T n i) mem mem' := by
    intro fu i mem hT hi h13 hno hS
    have hn := hT.1
    rw [hS]
    have g : ∀ j, j ≠ 15 → wr mem 44 15 (nI i) 44 j = mem 44 j := fun j h1 => by rw [wr_at, upd_ne h1]
    have f1 : ∀ k, k ≠ 44 → wr mem 44 15 (nI i) k = mem k := fun k hk => wr_ne hk
    have hT' : RTm (wr mem 44 15 (nI i)) n T := hT.fr (g 1 (by decide)) (f1 45 (by decide))
    have g13 : wr mem 44 15 (nI i) 44 13 = nI i := by rw [g 13 (by decide)]; exact h13
    obtain ⟨m', e1, e2, e3, e4, e5, e6, e7⟩ := t75 hN hi hT' g13 (by rw [wr_at, upd_at])
    refine ⟨m', ?_, e2, e3, e4, e5, fun k hk => (e6 k hk).trans (f1 k hk), fun j hj => (e7 j hj).trans (g j (by omega))⟩
    rw [f_X5_token_0.eq_2, h13, zb_of (la5 hT hi)]
    have n32 : ¬ (if i < n then nI (T i) else (-1 : Int32)) = (32 : Int32) := by
      by_cases c : i < n
      · have := (hT.2.2 i c).1
        rw [if_pos c]
        intro z
        exact hno ⟨c, (nI_eq (by omega) (by omega)).mp (show nI (T i) = nI 32 from z)⟩
      · rw [if_neg c]
        decide
    rw [if_neg n32, zlet_e, h13, g13, zb_of (la5 hT' hi)]
    rcases tok_cases T n i with ⟨a, b, c, d⟩ | ⟨a, b, c, d, e, f⟩ | ⟨a, b, c, d, e, f⟩ | ⟨a, b, b2, c, d, f⟩
    · rw [if_neg (show ¬ i < n by omega), if_neg (by decide)]
      rw [b] at e1
      exact e1
    · have := (hT.2.2 i a).1
      rw [if_pos a, if_pos (nI_pos' (by omega)), zb_of (isLet5 (by omega)), if_pos b, if_neg (by decide)]
      rw [c] at e1
      exact e1
    · have := (hT.2.2 i a).1
      rw [if_pos a, if_pos (nI_pos' (by omega)), zb_of (isLet5 (by omega)), if_neg (show ¬ (97 ≤ T i ∧ T i ≤ 122) by omega), if_pos rfl, zb_of (isDig5 (by omega)), if_pos b, if_neg (by decide)]
      rw [c] at e1
      exact e1
    · have := (hT.2.2 i a).1
      rw [if_pos a, if_pos (nI_pos' (by omega)), zb_of (isLet5 (by omega)), if_neg b, if_pos rfl, zb_of (isDig5 (by omega)), if_neg b2, if_pos rfl]
      rw [c] at e1
      exact e1
  intro d
  induction d with
  | zero =>
    intro fu i mem hT hi hf h13
    obtain ⟨fu, rfl⟩ : ∃ n', fu = n' + 1 := ⟨fu - 1, by omega⟩
    exact stop fu i mem hT (by omega) h13 (by omega) (rn_end (by omega))
  | succ d ih =>
    intro fu i mem hT hi hf h13
    obtain ⟨fu, rfl⟩ : ∃ n', fu = n' + 1 := ⟨fu - 1, by omega⟩
    have hn := hT.1
    by_cases c : T i = 32
    · have g : ∀ j, j ≠ 13 → wr mem 44 13 (nI (i + 1)) 44 j = mem 44 j := fun j h1 => by rw [wr_at, upd_ne h1]
      have f1 : ∀ k, k ≠ 44 → wr mem 44 13 (nI (i + 1)) k = mem k := fun k hk => wr_ne hk
      obtain ⟨m', e1, e2, e3, e4, e5, e6, e7⟩ := ih fu (i + 1) (wr mem 44 13 (nI (i + 1))) (hT.fr (g 1 (by decide)) (f1 45 (by decide))) (by omega) (by omega) (by rw [wr_at, upd_at])
      have hS : tS T n i = tS T n (i + 1) := rn_go (by omega) (by omega)
      rw [hS]
      refine ⟨m', ?_, e2, e3, e4, e5, fun k hk => (e6 k hk).trans (f1 k hk), fun j hj => (e7 j hj).trans (g j (by omega))⟩
      rw [f_X5_token_0.eq_2, h13, zb_of (la5 hT (by omega)), if_pos (show i < n by omega), if_pos (show nI (T i) = (32 : Int32) by rw [c]; rfl), zlet_e, h13, nI_1]
      exact e1
    · exact stop fu i mem hT (by omega) h13 (fun z => c z.2) (rn_no (by omega))
theorem tok5 (hN : 300 ≤ N) {e : Nat} {mem : zMem} (hT : RTm mem n T) (he : e ≤ n) (h13 : mem 44 13 = nI e) : ∃ mem' : zMem, f_X5_token N mem = some ((), mem') ∧ T5 T n (tS T n e) mem mem' := by
  have := hT.1
  exact tok5_loop hN (n - e) N e mem hT (by omega) (by omega) h13
end GF
