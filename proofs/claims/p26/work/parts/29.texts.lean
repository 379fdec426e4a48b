/-! clauses on the reference's side, and both loops over the text -/
def MF (m m' : zMem) : Prop := (∀ k, k ≠ 44 → k ≠ 47 → m' k = m k) ∧ ∀ j, j < 13 ∨ 16 < j → m' 44 j = m 44 j
theorem MF.trans {m m' m'' : zMem} (h : MF m m') (h' : MF m' m'') : MF m m'' := ⟨fun k a b => (h'.1 k a b).trans (h.1 k a b), fun j hj => (h'.2 j hj).trans (h.2 j hj)⟩
theorem MF.rt {n : Nat} {T : Nat → Nat} {m m' : zMem} (h : MF m m') (hT : RTm m n T) : RTm m' n T := hT.fr (h.2 1 (by omega)) (h.1 45 (by decide) (by decide))
theorem MF.row {m : zMem} {f : Nat → Int32} : MF m (rset m 47 f) := ⟨fun k _ b => rset_ne b, fun j _ => by rw [rset_ne (show 44 ≠ 47 by decide)]⟩
theorem PR_part {h : Nat → Int32} {D : Nat → Nat} {t a b : Nat} (hD : D 0 < 8) (hD1 : D 1 ≤ 6) (h1 : 1 ≤ t) (h4 : t ≤ 4) (hR : PR h D) : PR (upd (upd (upd (upd h (13 + D 0) (nI a)) (21 + D 0) (nI b)) (5 + D 0) (nI (t - 1))) 0 (nI (D 0 + 1))) (stp D t a b) := by
  obtain ⟨⟨b0, b1, b2, b3, b4⟩, bp, bs⟩ := hR
  rw [stp_part h1 h4]
  have lo : ∀ j, 1 ≤ j → j ≤ 4 → upd (upd (upd (upd h (13 + D 0) (nI a)) (21 + D 0) (nI b)) (5 + D 0) (nI (t - 1))) 0 (nI (D 0 + 1)) j = h j := fun j j1 j2 => by
    rw [upd_ne (by omega), upd_ne (by omega), upd_ne (by omega), upd_ne (by omega)]
  have ld : ∀ j, 1 ≤ j → j ≤ 4 → (if j = 0 then D 0 + 1 else if j = 5 + D 0 then t - 1 else if j = 13 + D 0 then a else if j = 21 + D 0 then b else D j) = D j := fun j j1 j2 => by
    rw [if_neg (by omega), if_neg (by omega), if_neg (by omega), if_neg (by omega)]
  refine ⟨⟨?_, ?_, ?_, ?_, ?_⟩, fun k hk => ?_, fun k hk => ?_⟩
  · rw [upd_at]
    rfl
  · rw [lo 1 (by omega) (by omega), b1]
    exact congrArg nI (ld 1 (by omega) (by omega)).symm
  · rw [lo 2 (by omega) (by omega), b2]
    exact congrArg nI (ld 2 (by omega) (by omega)).symm
  · rw [lo 3 (by omega) (by omega), b3]
    exact congrArg nI (ld 3 (by omega) (by omega)).symm
  · rw [lo 4 (by omega) (by omega), b4]
    exact congrArg nI (ld 4 (by omega) (by omega)).symm
  · have hk : k < D 0 + 1 := hk
    dsimp only
    by_cases e : k = D 0
    · subst e
      rw [upd_ne (by omega), upd_at, upd_ne (by omega), upd_ne (by omega), upd_ne (by omega), upd_at, upd_ne (by omega), upd_ne (by omega), upd_at]
      rw [if_neg (by omega), if_pos rfl, if_neg (by omega), if_neg (by omega), if_pos rfl, if_neg (by omega), if_neg (by omega), if_neg (by omega), if_pos rfl]
      exact ⟨rfl, rfl, rfl⟩
    · obtain ⟨q1, q2, q3⟩ := bp k (by omega)
      refine ⟨?_, ?_, ?_⟩
      · rw [upd_ne (by omega), upd_ne (by omega), upd_ne (by omega), upd_ne (by omega), if_neg (by omega), if_neg (by omega), if_neg (by omega), if_neg (by omega)]
        exact q1
      · rw [upd_ne (by omega), upd_ne (by omega), upd_ne (by omega), upd_ne (by omega), if_neg (by omega), if_neg (by omega), if_neg (by omega), if_neg (by omega)]
        exact q2
      · rw [upd_ne (by omega), upd_ne (by omega), upd_ne (by omega), upd_ne (by omega), if_neg (by omega), if_neg (by omega), if_neg (by omega), if_neg (by omega)]
        exact q3
  · dsimp only at hk
    rw [ld 1 (by omega) (by omega)] at hk
    dsimp only
    rw [upd_ne (by omega), upd_ne (by omega), upd_ne (by omega), upd_ne (by omega), if_neg (by omega), if_neg (by omega), if_neg (by omega), if_neg (by omega)]
    exact bs k hk
theorem PR_soul {h : Nat → Int32} {D : Nat → Nat} {a b : Nat} (hD : D 0 ≤ 8) (hD1 : D 1 < 6) (hR : PR h D) : PR (upd (upd h (29 + D 1) (nI a)) 1 (nI (D 1 + 1))) (stp D 5 a b) := by
  obtain ⟨⟨b0, b1, b2, b3, b4⟩, bp, bs⟩ := hR
  rw [stp_soul]
  have lo : ∀ j, j ≠ 1 → j < 29 → upd (upd h (29 + D 1) (nI a)) 1 (nI (D 1 + 1)) j = h j := fun j j1 j2 => by
    rw [upd_ne j1, upd_ne (by omega)]
  have ld : ∀ j, j ≠ 1 → j < 29 → (if j = 1 then D 1 + 1 else if j = 29 + D 1 then a else D j) = D j := fun j j1 j2 => by
    rw [if_neg j1, if_neg (by omega)]
  refine ⟨⟨?_, ?_, ?_, ?_, ?_⟩, fun k hk => ?_, fun k hk => ?_⟩
  · rw [lo 0 (by omega) (by omega), b0]
    exact congrArg nI (ld 0 (by omega) (by omega)).symm
  · rw [upd_at]
    rfl
  · rw [lo 2 (by omega) (by omega), b2]
    exact congrArg nI (ld 2 (by omega) (by omega)).symm
  · rw [lo 3 (by omega) (by omega), b3]
    exact congrArg nI (ld 3 (by omega) (by omega)).symm
  · rw [lo 4 (by omega) (by omega), b4]
    exact congrArg nI (ld 4 (by omega) (by omega)).symm
  · dsimp only at hk
    rw [ld 0 (by omega) (by omega)] at hk
    obtain ⟨q1, q2, q3⟩ := bp k hk
    dsimp only
    rw [lo _ (by omega) (by omega), lo _ (by omega) (by omega), lo _ (by omega) (by omega), ld _ (by omega) (by omega), ld _ (by omega) (by omega), ld _ (by omega) (by omega)]
    exact ⟨q1, q2, q3⟩
  · have hk : k < D 1 + 1 := hk
    dsimp only
    rw [if_neg (show ¬ 29 + k = 1 by omega), upd_ne (by omega)]
    by_cases e : k = D 1
    · subst e
      rw [upd_at, if_pos rfl]
    · rw [upd_ne (by omega), if_neg (by omega)]
      exact bs k (by omega)
theorem PR_set {h : Nat → Int32} {D : Nat → Nat} {t a b : Nat} (hD : D 0 ≤ 8) (h6 : 6 ≤ t) (h8 : t ≤ 8) (hR : PR h D) : PR (upd h (t - 4) (nI a)) (stp D t a b) := by
  obtain ⟨⟨b0, b1, b2, b3, b4⟩, bp, bs⟩ := hR
  rw [stp_set h6]
  have al : ∀ j, h j = nI (D j) → upd h (t - 4) (nI a) j = nI (if j = t - 4 then a else D j) := fun j hj => by
    by_cases e : j = t - 4
    · subst e
      rw [upd_at, if_pos rfl]
    · rw [upd_ne e, if_neg e]
      exact hj
  refine ⟨⟨al 0 b0, al 1 b1, al 2 b2, al 3 b3, al 4 b4⟩, fun k hk => ?_, fun k hk => ?_⟩
  · dsimp only at hk
    rw [if_neg (by omega)] at hk
    obtain ⟨q1, q2, q3⟩ := bp k hk
    exact ⟨al _ q1, al _ q2, al _ q3⟩
  · dsimp only at hk
    rw [if_neg (by omega)] at hk
    exact al _ (bs k hk)
theorem PR_kirk {h : Nat → Int32} {D : Nat → Nat} {a b : Nat} : PR (fun j => if j = 3 then 1 else if j < 35 then 0 else h j) (stp D 0 a b) := ⟨⟨rfl, rfl, rfl, rfl, rfl⟩, fun k hk => absurd hk (Nat.not_lt_zero k), fun k hk => absurd hk (Nat.not_lt_zero k)⟩
theorem wi_spec (T : Nat → Nat) (s e : Nat) : ∀ d t, (∀ j, t ≤ j → j < wi T s e d t → wmB T s e j = false) ∧ (wi T s e d t < t + d → wmB T s e (wi T s e d t) = true) := by
  intro d
  induction d with
  | zero => intro t; exact ⟨fun j h1 h2 => absurd h2 (Nat.not_lt.mpr h1), fun h => absurd h (Nat.lt_irrefl _)⟩
  | succ d ih =>
    intro t
    unfold wi
    by_cases c : wmB T s e t = true
    · rw [if_pos c]
      exact ⟨fun j h1 h2 => by omega, fun _ => c⟩
    · rw [if_neg c]
      obtain ⟨i1, i2⟩ := ih (t + 1)
      refine ⟨fun j h1 h2 => ?_, fun h => i2 (by omega)⟩
      by_cases e' : j = t
      · subst e'
        exact Bool.eq_false_iff.mpr c
      · exact i1 j (by omega) h2
section GI
variable {N : Nat} {n : Nat} {T : Nat → Nat}
def Q5 (D : Nat → Nat) (mem : zMem) (x : Option (Int32 × zMem)) : Nat ⊕ (Nat × Nat × Nat × Nat) → Prop
  | .inl s => ∃ m', x = some (0, m') ∧ m' 44 15 = nI s ∧ MF mem m'
  | .inr (t, a, b, e') => ∃ m', x = some (1, m') ∧ m' 44 13 = nI e' ∧ PR (m' 47) (stp D t a b) ∧ MF mem m'
theorem part5 {mem : zMem} (hT : RTm mem n T) (hN : 300 ≤ N) {D : Nat → Nat} (hB : PB D) (hR : PR (mem 47) D) {s1 e1 t : Nat} (he1 : e1 ≤ n) (h1 : 1 ≤ t) (h4 : t ≤ 4) (h13 : mem 44 13 = nI e1) (h15 : mem 44 15 = nI s1) : Q5 D mem (f_X5_readsPart N mem (nI (t - 1))) (cR1 T n s1 e1 t (D 0) (D 1)) := by
  have hb := hB.1
  have h0 : mem 47 (0 : Int32).toNatClampNeg = nI (D 0) := hR.1.1
  unfold f_X5_readsPart cR1
  rw [h0, if_neg (show ¬ t = 9 by omega), if_neg (show ¬ t = 0 by omega)]
  by_cases c : D 0 = 8
  · rw [if_pos (show nI (D 0) = (8 : Int32) by rw [c]; rfl), if_pos (Or.inl ⟨h4, c⟩)]
    exact ⟨mem, rfl, h15, fun _ _ _ => rfl, fun _ _ => rfl⟩
  · rw [if_neg (show ¬ nI (D 0) = (8 : Int32) from fun z => c ((nI_eq (by omega) (by omega)).mp (show nI (D 0) = nI 8 from z))), if_neg (fun z => z.elim (fun z => c z.2) (fun z => by omega))]
    have hmf : mf t = 20 := by unfold mf; rw [if_neg (by omega), if_neg (by omega), if_neg (by omega), if_neg (by omega)]
    unfold cR2
    rw [hmf]
    obtain ⟨m1, x1, a13, a15, a47, f1, f1'⟩ := num5 (p := 13 + D 0) (lo := 0) (up := 20) hT hN he1 h13 (by omega) (by omega) (by omega)
    have F1 : MF mem m1 := ⟨f1, f1'⟩
    have h2 : tS T n e1 ≤ n := tS_le he1
    generalize hs2 : tS T n e1 = s2 at *
    have h3 : tE T n s2 ≤ n := tE_le h2
    have h0' : m1 47 (0 : Int32).toNatClampNeg = nI (D 0) := by rw [a47]; exact (upd_ne (show 0 ≠ 13 + D 0 by omega)).trans hR.1.1
    rw [show (13 : Int32) + nI (D 0) = nI (13 + D 0) from nI_add 13 (D 0), zb_of (show f_X5_number N mem (nI (13 + D 0)) (0 : Int32) (20 : Int32) = _ from x1)]
    by_cases c2 : okB T n s2 0 20 = false
    · rw [if_pos c2, c2, if_pos (show b2i false = 0 from rfl)]
      exact ⟨m1, rfl, a15, F1⟩
    · rw [if_neg c2, (Bool.not_eq_false _).mp c2, if_neg (show ¬ b2i true = 0 by decide), if_neg (show ¬ 5 ≤ t by omega), show (21 : Int32) + nI (D 0) = nI (21 + D 0) from nI_add 21 (D 0)]
      obtain ⟨m2, x2, b13, b15, b47, f2, f2'⟩ := num5 (p := 21 + D 0) (lo := 1) (up := 30) (F1.rt hT) hN h3 a13 (by omega) (by omega) (by omega)
      have F2 : MF mem m2 := F1.trans ⟨f2, f2'⟩
      have h4' : tS T n (tE T n s2) ≤ n := tS_le h3
      unfold cR3
      generalize hs3 : tS T n (tE T n s2) = s3 at *
      rw [zb_of (show f_X5_number N m1 (nI (21 + D 0)) (1 : Int32) (30 : Int32) = _ from x2)]
      by_cases c3 : okB T n s3 1 30 = false
      · rw [if_pos c3, c3, if_pos (show b2i false = 0 from rfl)]
        exact ⟨m2, rfl, b15, F2⟩
      · have h0'' : m2 47 (0 : Int32).toNatClampNeg = nI (D 0) := by rw [b47]; exact (upd_ne (show 0 ≠ 21 + D 0 by omega)).trans h0'
        have g0 : (wr m2 47 (5 + D 0) (nI (t - 1))) 47 (0 : Int32).toNatClampNeg = nI (D 0) := by rw [wr_at]; exact (upd_ne (show 0 ≠ 5 + D 0 by omega)).trans h0''
        rw [if_neg c3, (Bool.not_eq_false _).mp c3, if_neg (show ¬ b2i true = 0 by decide), show (5 : Int32) + nI (D 0) = nI (5 + D 0) from nI_add 5 (D 0), zgd_t (zin_nI (by omega) (by omega)), nI_clamp (by omega), zlet_e, g0, nI_1, zlet_e]
        refine ⟨_, rfl, ?_, ?_, F2.trans ⟨fun k hk1 hk2 => ?_, fun j hj => ?_⟩⟩
        · rw [wr_ne (by decide), wr_ne (by decide)]
          exact b13
        · have := PR_part (h := mem 47) (a := tV T n s2) (b := tV T n s3) (show D 0 < 8 by omega) hb.2.1 h1 h4 hR
          rw [wr_at, wr_at, b47, a47]
          exact this
        · rw [wr_ne hk2, wr_ne hk2]
        · rw [wr_ne (by decide), wr_ne (by decide)]
theorem soul5 {mem : zMem} (hT : RTm mem n T) (hN : 300 ≤ N) {D : Nat → Nat} (hB : PB D) (hR : PR (mem 47) D) {s1 e1 : Nat} (he1 : e1 ≤ n) (h13 : mem 44 13 = nI e1) (h15 : mem 44 15 = nI s1) : Q5 D mem (f_X5_readsSoul N mem) (cR1 T n s1 e1 5 (D 0) (D 1)) := by
  have hb := hB.1
  have h0 : mem 47 (1 : Int32).toNatClampNeg = nI (D 1) := hR.1.2.1
  unfold f_X5_readsSoul cR1
  rw [h0, if_neg (show ¬ 5 = 9 by omega), if_neg (show ¬ 5 = 0 by omega)]
  by_cases c : D 1 = 6
  · rw [if_pos (show nI (D 1) = (6 : Int32) by rw [c]; rfl), if_pos (Or.inr ⟨rfl, c⟩)]
    exact ⟨mem, rfl, h15, fun _ _ _ => rfl, fun _ _ => rfl⟩
  · rw [if_neg (show ¬ nI (D 1) = (6 : Int32) from fun z => c ((nI_eq (by omega) (by omega)).mp (show nI (D 1) = nI 6 from z))), if_neg (fun z => z.elim (fun z => by omega) (fun z => c z.2))]
    unfold cR2
    rw [show mf 5 = 40 from rfl]
    obtain ⟨m1, x1, a13, a15, a47, f1, f1'⟩ := num5 (p := 29 + D 1) (lo := 0) (up := 40) hT hN he1 h13 (by omega) (by omega) (by omega)
    have F1 : MF mem m1 := ⟨f1, f1'⟩
    generalize hs2 : tS T n e1 = s2 at *
    have h0' : m1 47 (1 : Int32).toNatClampNeg = nI (D 1) := by rw [a47]; exact (upd_ne (show 1 ≠ 29 + D 1 by omega)).trans hR.1.2.1
    rw [show (29 : Int32) + nI (D 1) = nI (29 + D 1) from nI_add 29 (D 1), zb_of (show f_X5_number N mem (nI (29 + D 1)) (0 : Int32) (40 : Int32) = _ from x1)]
    by_cases c2 : okB T n s2 0 40 = false
    · rw [if_pos c2, c2, if_pos (show b2i false = 0 from rfl)]
      exact ⟨m1, rfl, a15, F1⟩
    · rw [if_neg c2, (Bool.not_eq_false _).mp c2, if_neg (show ¬ b2i true = 0 by decide), if_pos (show 5 ≤ 5 by omega), h0', nI_1, zlet_e]
      refine ⟨_, rfl, ?_, ?_, F1.trans ⟨fun k hk1 hk2 => wr_ne hk2, fun j hj => by rw [wr_ne (by decide)]⟩⟩
      · rw [wr_ne (by decide)]
        exact a13
      · have := PR_soul (h := mem 47) (a := tV T n s2) (b := 0) hb.1 (show D 1 < 6 by omega) hR
        rw [wr_at, a47]
        exact this
theorem set5 {mem : zMem} (hT : RTm mem n T) (hN : 300 ≤ N) {D : Nat → Nat} (hB : PB D) (hR : PR (mem 47) D) {s1 e1 t : Nat} (he1 : e1 ≤ n) (h6 : 6 ≤ t) (h8 : t ≤ 8) (h13 : mem 44 13 = nI e1) : ∃ b m', f_X5_number N mem (nI (t - 4)) (nI 0) (nI (mf t)) = some (b2i b, m') ∧ Q5 D mem (some (b2i b, m')) (cR1 T n s1 e1 t (D 0) (D 1)) := by
  have hb := hB.1
  have hmf : mf t < 100 := by unfold mf; repeat (first | omega | split)
  unfold cR1
  rw [if_neg (show ¬ t = 9 by omega), if_neg (show ¬ t = 0 by omega), if_neg (show ¬ (t ≤ 4 ∧ D 0 = 8 ∨ t = 5 ∧ D 1 = 6) by omega)]
  unfold cR2
  obtain ⟨m1, x1, a13, a15, a47, f1, f1'⟩ := num5 (p := t - 4) (lo := 0) (up := mf t) hT hN he1 h13 (by omega) (by omega) hmf
  refine ⟨_, m1, x1, ?_⟩
  generalize hs2 : tS T n e1 = s2 at *
  by_cases c2 : okB T n s2 0 (mf t) = false
  · rw [if_pos c2, c2]
    exact ⟨m1, rfl, a15, f1, f1'⟩
  · rw [if_neg c2, (Bool.not_eq_false _).mp c2, if_pos (show 5 ≤ t by omega)]
    refine ⟨m1, rfl, a13, ?_, f1, f1'⟩
    rw [a47]
    exact PR_set hb.1 h6 h8 hR
theorem kw {mem : zMem} (hT : RTm mem n T) (hN : 300 ≤ N) {s t : Nat} (ht : t < 9) (hs : s ≤ n) (h13 : mem 44 13 = nI (tE T n s)) (h14 : mem 44 14 = nI (tK T n s)) (h15 : mem 44 15 = nI s) {a b c d e : Int32} (hw : nI (wW t 0) = a ∧ nI (wW t 1) = b ∧ nI (wW t 2) = c ∧ nI (wW t 3) = d ∧ nI (wW t 4) = e) : f_X5_isWord N mem a b c d e = some (b2i (wmB T s (tE T n s) t), mem) := by
  obtain ⟨rfl, rfl, rfl, rfl, rfl⟩ := hw
  exact isw5 hT hN ht hs h13 h14 h15
theorem zbo_Q {x : Option (Int32 × zMem)} {D : Nat → Nat} {mem : zMem} {c : Nat ⊕ (Nat × Nat × Nat × Nat)} (h : Q5 D mem x c) : Q5 D mem (zb x (fun r m => zgd (zbo r) (some (r, m)))) c := by
  cases c with
  | inl s =>
    obtain ⟨m', e, h2⟩ := h
    subst e
    exact ⟨m', rfl, h2⟩
  | inr q =>
    obtain ⟨t, a, b, e'⟩ := q
    obtain ⟨m', e, h2⟩ := h
    subst e
    exact ⟨m', rfl, h2⟩
theorem rc5 {mem : zMem} (hT : RTm mem n T) (hN : 300 ≤ N) {D : Nat → Nat} (hB : PB D) (hR : PR (mem 47) D) {e : Nat} (he : e ≤ n) (h13 : mem 44 13 = nI (tE T n (tS T n e))) (h14 : mem 44 14 = nI (tK T n (tS T n e))) (h15 : mem 44 15 = nI (tS T n e)) : Q5 D mem (f_X5_readsClause N mem) (cR T n e (D 0) (D 1)) := by
  have h1 : tS T n e ≤ n := tS_le he
  unfold cR
  generalize hs1 : tS T n e = s1 at *
  have h2 : tE T n s1 ≤ n := tE_le h1
  have hle := wi_le T s1 (tE T n s1) 9 0
  obtain ⟨hno, hyes⟩ := wi_spec T s1 (tE T n s1) 9 0
  generalize wi T s1 (tE T n s1) 9 0 = t at *
  unfold f_X5_readsClause
  have k0 : f_X5_isWord N mem (107 : Int32) (105 : Int32) (114 : Int32) (107 : Int32) (0 : Int32) = some (b2i (wmB T s1 (tE T n s1) 0), mem) := kw hT hN (by omega) h1 h13 h14 h15 (by decide +kernel)
  have k1 : f_X5_isWord N mem (119 : Int32) (111 : Int32) (114 : Int32) (100 : Int32) (0 : Int32) = some (b2i (wmB T s1 (tE T n s1) 1), mem) := kw hT hN (by omega) h1 h13 h14 h15 (by decide +kernel)
  have k2 : f_X5_isWord N mem (103 : Int32) (114 : Int32) (101 : Int32) (101 : Int32) (107 : Int32) = some (b2i (wmB T s1 (tE T n s1) 2), mem) := kw hT hN (by omega) h1 h13 h14 h15 (by decide +kernel)
  have k3 : f_X5_isWord N mem (113 : Int32) (117 : Int32) (111 : Int32) (116 : Int32) (101 : Int32) = some (b2i (wmB T s1 (tE T n s1) 3), mem) := kw hT hN (by omega) h1 h13 h14 h15 (by decide +kernel)
  have k4 : f_X5_isWord N mem (112 : Int32) (115 : Int32) (97 : Int32) (108 : Int32) (109 : Int32) = some (b2i (wmB T s1 (tE T n s1) 4), mem) := kw hT hN (by omega) h1 h13 h14 h15 (by decide +kernel)
  have k5 : f_X5_isWord N mem (115 : Int32) (111 : Int32) (117 : Int32) (108 : Int32) (0 : Int32) = some (b2i (wmB T s1 (tE T n s1) 5), mem) := kw hT hN (by omega) h1 h13 h14 h15 (by decide +kernel)
  have k6 : f_X5_isWord N mem (116 : Int32) (104 : Int32) (117 : Int32) (109 : Int32) (98 : Int32) = some (b2i (wmB T s1 (tE T n s1) 6), mem) := kw hT hN (by omega) h1 h13 h14 h15 (by decide +kernel)
  have k7 : f_X5_isWord N mem (98 : Int32) (101 : Int32) (97 : Int32) (109 : Int32) (0 : Int32) = some (b2i (wmB T s1 (tE T n s1) 7), mem) := kw hT hN (by omega) h1 h13 h14 h15 (by decide +kernel)
  have k8 : f_X5_isWord N mem (119 : Int32) (101 : Int32) (116 : Int32) (0 : Int32) (0 : Int32) = some (b2i (wmB T s1 (tE T n s1) 8), mem) := kw hT hN (by omega) h1 h13 h14 h15 (by decide +kernel)
  have ct : t = 0 ∨ t = 1 ∨ t = 2 ∨ t = 3 ∨ t = 4 ∨ t = 5 ∨ t = 6 ∨ t = 7 ∨ t = 8 ∨ t = 9 := by omega
  rcases ct with rfl | rfl | rfl | rfl | rfl | rfl | rfl | rfl | rfl | rfl
  · rw [zb_of k0, hyes (by omega), if_neg (show ¬ b2i true = 0 by decide)]
    rw [zb_of (forgets_spec (by omega) mem)]
    exact ⟨_, rfl, by rw [rset_ne (by decide)]; exact h13, by rw [rset_at]; exact PR_kirk, MF.row⟩
  · rw [zb_of k0, hno 0 (by omega) (by omega), if_pos (show b2i false = 0 from rfl), zb_of k1, hyes (by omega), if_neg (show ¬ b2i true = 0 by decide)]
    exact zbo_Q (part5 (t := 1) hT hN hB hR h2 (by omega) (by omega) h13 h15)
  · rw [zb_of k0, hno 0 (by omega) (by omega), if_pos (show b2i false = 0 from rfl), zb_of k1, hno 1 (by omega) (by omega), if_pos (show b2i false = 0 from rfl), zb_of k2, hyes (by omega), if_neg (show ¬ b2i true = 0 by decide)]
    exact zbo_Q (part5 (t := 2) hT hN hB hR h2 (by omega) (by omega) h13 h15)
  · rw [zb_of k0, hno 0 (by omega) (by omega), if_pos (show b2i false = 0 from rfl), zb_of k1, hno 1 (by omega) (by omega), if_pos (show b2i false = 0 from rfl), zb_of k2, hno 2 (by omega) (by omega), if_pos (show b2i false = 0 from rfl), zb_of k3, hyes (by omega), if_neg (show ¬ b2i true = 0 by decide)]
    exact zbo_Q (part5 (t := 3) hT hN hB hR h2 (by omega) (by omega) h13 h15)
  · rw [zb_of k0, hno 0 (by omega) (by omega), if_pos (show b2i false = 0 from rfl), zb_of k1, hno 1 (by omega) (by omega), if_pos (show b2i false = 0 from rfl), zb_of k2, hno 2 (by omega) (by omega), if_pos (show b2i false = 0 from rfl), zb_of k3, hno 3 (by omega) (by omega), if_pos (show b2i false = 0 from rfl), zb_of k4, hyes (by omega), if_neg (show ¬ b2i true = 0 by decide)]
    exact zbo_Q (part5 (t := 4) hT hN hB hR h2 (by omega) (by omega) h13 h15)
  · rw [zb_of k0, hno 0 (by omega) (by omega), if_pos (show b2i false = 0 from rfl), zb_of k1, hno 1 (by omega) (by omega), if_pos (show b2i false = 0 from rfl), zb_of k2, hno 2 (by omega) (by omega), if_pos (show b2i false = 0 from rfl), zb_of k3, hno 3 (by omega) (by omega), if_pos (show b2i false = 0 from rfl), zb_of k4, hno 4 (by omega) (by omega), if_pos (show b2i false = 0 from rfl), zb_of k5, hyes (by omega), if_neg (show ¬ b2i true = 0 by decide)]
    exact zbo_Q (soul5 hT hN hB hR h2 h13 h15)
  · rw [zb_of k0, hno 0 (by omega) (by omega), if_pos (show b2i false = 0 from rfl), zb_of k1, hno 1 (by omega) (by omega), if_pos (show b2i false = 0 from rfl), zb_of k2, hno 2 (by omega) (by omega), if_pos (show b2i false = 0 from rfl), zb_of k3, hno 3 (by omega) (by omega), if_pos (show b2i false = 0 from rfl), zb_of k4, hno 4 (by omega) (by omega), if_pos (show b2i false = 0 from rfl), zb_of k5, hno 5 (by omega) (by omega), if_pos (show b2i false = 0 from rfl), zb_of k6, hyes (by omega), if_neg (show ¬ b2i true = 0 by decide)]
    obtain ⟨b, m', x, q⟩ := set5 (s1 := s1) (t := 6) hT hN hB hR h2 (by omega) (by omega) h13
    rw [show f_X5_number N mem (2 : Int32) (0 : Int32) (9 : Int32) = _ from x]
    exact zbo_Q q
  · rw [zb_of k0, hno 0 (by omega) (by omega), if_pos (show b2i false = 0 from rfl), zb_of k1, hno 1 (by omega) (by omega), if_pos (show b2i false = 0 from rfl), zb_of k2, hno 2 (by omega) (by omega), if_pos (show b2i false = 0 from rfl), zb_of k3, hno 3 (by omega) (by omega), if_pos (show b2i false = 0 from rfl), zb_of k4, hno 4 (by omega) (by omega), if_pos (show b2i false = 0 from rfl), zb_of k5, hno 5 (by omega) (by omega), if_pos (show b2i false = 0 from rfl), zb_of k6, hno 6 (by omega) (by omega), if_pos (show b2i false = 0 from rfl), zb_of k7, hyes (by omega), if_neg (show ¬ b2i true = 0 by decide)]
    obtain ⟨b, m', x, q⟩ := set5 (s1 := s1) (t := 7) hT hN hB hR h2 (by omega) (by omega) h13
    rw [show f_X5_number N mem (3 : Int32) (0 : Int32) (5 : Int32) = _ from x]
    exact zbo_Q q
  · rw [zb_of k0, hno 0 (by omega) (by omega), if_pos (show b2i false = 0 from rfl), zb_of k1, hno 1 (by omega) (by omega), if_pos (show b2i false = 0 from rfl), zb_of k2, hno 2 (by omega) (by omega), if_pos (show b2i false = 0 from rfl), zb_of k3, hno 3 (by omega) (by omega), if_pos (show b2i false = 0 from rfl), zb_of k4, hno 4 (by omega) (by omega), if_pos (show b2i false = 0 from rfl), zb_of k5, hno 5 (by omega) (by omega), if_pos (show b2i false = 0 from rfl), zb_of k6, hno 6 (by omega) (by omega), if_pos (show b2i false = 0 from rfl), zb_of k7, hno 7 (by omega) (by omega), if_pos (show b2i false = 0 from rfl), zb_of k8, hyes (by omega), if_neg (show ¬ b2i true = 0 by decide)]
    obtain ⟨b, m', x, q⟩ := set5 (s1 := s1) (t := 8) hT hN hB hR h2 (by omega) (by omega) h13
    rw [zb_of (show f_X5_number N mem (4 : Int32) (0 : Int32) (9 : Int32) = _ from x)]
    cases b with
    | false =>
      rw [if_pos (show b2i false = 0 from rfl)]
      exact q
    | true =>
      rw [if_neg (show ¬ b2i true = 0 by decide)]
      exact q
  · rw [zb_of k0, hno 0 (by omega) (by omega), if_pos (show b2i false = 0 from rfl), zb_of k1, hno 1 (by omega) (by omega), if_pos (show b2i false = 0 from rfl), zb_of k2, hno 2 (by omega) (by omega), if_pos (show b2i false = 0 from rfl), zb_of k3, hno 3 (by omega) (by omega), if_pos (show b2i false = 0 from rfl), zb_of k4, hno 4 (by omega) (by omega), if_pos (show b2i false = 0 from rfl), zb_of k5, hno 5 (by omega) (by omega), if_pos (show b2i false = 0 from rfl), zb_of k6, hno 6 (by omega) (by omega), if_pos (show b2i false = 0 from rfl), zb_of k7, hno 7 (by omega) (by omega), if_pos (show b2i false = 0 from rfl), zb_of k8, hno 8 (by omega) (by omega), if_pos (show b2i false = 0 from rfl)]
    exact ⟨mem, rfl, h15, fun _ _ _ => rfl, fun _ _ => rfl⟩
def fl (T : Nat → Nat) (n : Nat) : Nat → Nat → Nat → Nat → Nat → Nat ⊕ List (Nat × Nat × Nat)
  | 0, s, _, _, _ => .inl s
  | d + 1, _, e, np, ns => match cR T n e np ns with
    | .inl s => .inl s
    | .inr (t, a, b, e') => if n ≤ tS T n e' then .inr [(t, a, b)] else if T (tS T n e') = 59 then (match fl T n d (tS T n e') (tE T n (tS T n e')) (npA t np) (nsA t ns) with
      | .inl s => .inl s
      | .inr cs => .inr ((t, a, b) :: cs)) else .inl (tS T n e')
def VL : Nat → Nat → List (Nat × Nat × Nat) → Prop
  | _, _, [] => True
  | np, ns, c :: cs => VC np ns c.1 c.2.1 c.2.2 ∧ VL (npA c.1 np) (nsA c.1 ns) cs
theorem npA_le {np ns t a b : Nat} (h : np ≤ 8) (hV : VC np ns t a b) : npA t np ≤ 8 := by
  unfold npA
  by_cases c0 : t = 0
  · rw [if_pos c0]; omega
  · rw [if_neg c0]
    by_cases c1 : t ≤ 4
    · rw [if_pos c1]
      have := (hV.2.1 (by omega) c1).1
      omega
    · rw [if_neg c1]; exact h
theorem nsA_le {np ns t a b : Nat} (h : ns ≤ 6) (hV : VC np ns t a b) : nsA t ns ≤ 6 := by
  unfold nsA
  by_cases c0 : t = 0
  · rw [if_pos c0]; omega
  · rw [if_neg c0]
    by_cases c1 : t = 5
    · rw [if_pos c1]
      have := (hV.2.2.1 c1).1
      omega
    · rw [if_neg c1]; exact h
theorem fl_ok {T : Nat → Nat} {n : Nat} : ∀ d s e np ns, s ≤ n → e ≤ n → np ≤ 8 → ns ≤ 6 → (∀ s', fl T n d s e np ns = .inl s' → s' ≤ n) ∧ ∀ cs, fl T n d s e np ns = .inr cs → VL np ns cs := by
  intro d
  induction d with
  | zero =>
    intro s e np ns hs he hnp hns
    exact ⟨fun s' h => by injection h with h; omega, fun _ h => (nomatch h)⟩
  | succ d ih =>
    intro s e np ns hs he hnp hns
    obtain ⟨o1, o2⟩ := cR_ok (T := T) he hnp hns
    unfold fl
    cases hc : cR T n e np ns with
    | inl s1 =>
      dsimp only
      exact ⟨fun s' h => by injection h with h; subst h; exact o1 _ hc, fun _ h => (nomatch h)⟩
    | inr q =>
      obtain ⟨t, a, b, e'⟩ := q
      obtain ⟨hV, he'⟩ := o2 t a b e' hc
      dsimp only
      by_cases c1 : n ≤ tS T n e'
      · rw [if_pos c1]
        refine ⟨fun _ h => (nomatch h), fun cs h => ?_⟩
        injection h with h
        subst h
        exact ⟨hV, trivial⟩
      · rw [if_neg c1]
        by_cases c2 : T (tS T n e') = 59
        · rw [if_pos c2]
          obtain ⟨i1, i2⟩ := ih (tS T n e') (tE T n (tS T n e')) (npA t np) (nsA t ns) (tS_le he') (tE_le (tS_le he')) (npA_le hnp hV) (nsA_le hns hV)
          cases hf : fl T n d (tS T n e') (tE T n (tS T n e')) (npA t np) (nsA t ns) with
          | inl s2 =>
            dsimp only
            exact ⟨fun s' h => by injection h with h; subst h; exact i1 _ hf, fun _ h => (nomatch h)⟩
          | inr cs' =>
            dsimp only
            refine ⟨fun _ h => (nomatch h), fun cs h => ?_⟩
            injection h with h
            subst h
            exact ⟨hV, i2 _ hf⟩
        · rw [if_neg c2]
          exact ⟨fun s' h => by injection h with h; subst h; exact tS_le he', fun _ h => (nomatch h)⟩
def rws (m : zMem) : Nat → List (Nat × Nat × Nat) → Prop
  | _, [] => True
  | r, c :: cs => (m 3 r = nI c.1 ∧ m 4 r = nI c.2.1 ∧ m 5 r = nI c.2.2) ∧ rws m (r + 1) cs
def CG (r : Nat) (m m' : zMem) : Prop := (∀ k, k ≠ 1 → k ≠ 3 → k ≠ 4 → k ≠ 5 → m' k = m k) ∧ (∀ j, j ≤ 4 → m' 1 j = m 1 j) ∧ ∀ k j, k = 3 ∨ k = 4 ∨ k = 5 → j < r → m' k j = m k j
theorem CG.of {r : Nat} {m m' : zMem} (h : CF r m m') : CG r m m' := ⟨h.1, h.2.1, fun k j a b => h.2.2 k j a (by omega)⟩
theorem CG.trans {r r' : Nat} (hr : r ≤ r') {m m' m'' : zMem} (h : CG r m m') (h' : CG r' m' m'') : CG r m m'' := ⟨fun k a b c d => (h'.1 k a b c d).trans (h.1 k a b c d), fun j hj => (h'.2.1 j hj).trans (h.2.1 j hj), fun k j a b => (h'.2.2 k j a (by omega)).trans (h.2.2 k j a b)⟩
def L4 (r : Nat) (mem : zMem) (x : Option (Int32 × zMem)) : Nat ⊕ List (Nat × Nat × Nat) → Prop
  | .inl s => ∃ m', x = some (nI s, m') ∧ CG r mem m'
  | .inr cs => ∃ m', x = some (-1, m') ∧ CG r mem m' ∧ m' 1 5 = nI (r + cs.length) ∧ r + cs.length ≤ 14 ∧ rws m' r cs
theorem ff4 (hN : 300 ≤ N) : ∀ (d r s e np ns fu : Nat) (mem : zMem), RTc mem n T → r + d = 14 → d < fu → e ≤ n → np ≤ 8 → ns ≤ 6 → (d = 0 → mem 1 6 = nI s) → mem 1 7 = nI e → mem 1 8 = nI np → mem 1 9 = nI ns → L4 r mem (f_X2_firstFault_22 N fu mem (nI r)) (fl T n d s e np ns) := by
  intro d
  induction d with
  | zero =>
    intro r s e np ns fu mem hT hr hf he hnp hns h6 h7 h8 h9
    obtain ⟨fu, rfl⟩ : ∃ n', fu = n' + 1 := ⟨fu - 1, by omega⟩
    rw [f_X2_firstFault_22.eq_2, if_pos (show (14 : Int32) ≤ nI r from nI_le (a := 14) (by omega) (by omega)), h6 rfl]
    exact ⟨mem, rfl, fun _ _ _ _ _ => rfl, fun _ _ => rfl, fun _ _ _ _ => rfl⟩
  | succ d ih =>
    intro r s e np ns fu mem hT hr hf he hnp hns h6 h7 h8 h9
    obtain ⟨fu, rfl⟩ : ∃ n', fu = n' + 1 := ⟨fu - 1, by omega⟩
    have hn := hT.1
    have hq := rc4 hT hN he (show r < 14 by omega) h7 h8 h9 hnp hns
    obtain ⟨o1, o2⟩ := cR_ok (T := T) he hnp hns
    rw [f_X2_firstFault_22.eq_2, if_neg (show ¬ (14 : Int32) ≤ nI r from nI_ge (b := 14) (by omega) (by omega))]
    unfold fl
    cases hc : cR T n e np ns with
    | inl s1 =>
      rw [hc] at hq
      obtain ⟨m', x, y6, F⟩ := hq
      dsimp only
      rw [zb_of x, if_pos rfl, y6]
      exact ⟨m', rfl, CG.of F⟩
    | inr q =>
      obtain ⟨t, a, b, e'⟩ := q
      obtain ⟨hV, he'⟩ := o2 t a b e' hc
      rw [hc] at hq
      obtain ⟨m1, x, F, y7, y8, y9, z3, z4, z5⟩ := hq
      dsimp only
      rw [zb_of x, if_neg (by decide), zlet_e, nI_1]
      have F2 : CF r mem (wr m1 1 5 (nI (r + 1))) := F.trans (CF.one (fun k hk => wr_ne hk) (fun j hj => by rw [wr_at, upd_ne (by omega)]))
      obtain ⟨m3, x3, a6, a7, f3, f3'⟩ := nt4 (F2.rt hT) hN he' (show (wr m1 1 5 (nI (r + 1))) 1 7 = nI e' by rw [wr_at, upd_ne (by decide)]; exact y7)
      have F3 : CF r mem m3 := F2.trans (CF.one f3 (fun j hj => f3' j (by omega) (by omega)))
      have hT3 := F3.rt hT
      have hs2 : tS T n e' ≤ n := tS_le he'
      have b5 : m3 1 5 = nI (r + 1) := by rw [f3' 5 (by decide) (by decide), wr_at, upd_at]
      have b8 : m3 1 8 = nI (npA t np) := by rw [f3' 8 (by decide) (by decide), wr_at, upd_ne (by decide)]; exact y8
      have b9 : m3 1 9 = nI (nsA t ns) := by rw [f3' 9 (by decide) (by decide), wr_at, upd_ne (by decide)]; exact y9
      have c3 : m3 3 r = nI t := by rw [f3 3 (by decide), wr_ne (by decide)]; exact z3
      have c4 : m3 4 r = nI a := by rw [f3 4 (by decide), wr_ne (by decide)]; exact z4
      have c5 : m3 5 r = nI b := by rw [f3 5 (by decide), wr_ne (by decide)]; exact z5
      rw [zb_of x3, a6, hT3.2.1]
      by_cases c1 : n ≤ tS T n e'
      · rw [if_pos c1, if_neg (nI_nlt c1 (by omega))]
        exact ⟨m3, rfl, CG.of F3, b5, by show r + 1 ≤ 14; omega, ⟨c3, c4, c5⟩, trivial⟩
      · obtain ⟨t1, t2⟩ := hT3.2.2 (tS T n e') (by omega)
        rw [if_neg c1, if_pos (nI_lt (by omega) (by omega)), zgd_t (zin_nI (by omega) (by omega)), nI_clamp (by omega), t2]
        by_cases c2 : T (tS T n e') = 59
        · rw [if_pos c2, if_pos (show nI (T (tS T n e')) = (59 : Int32) by rw [c2]; rfl)]
          have hih := ih (r + 1) (tS T n e') (tE T n (tS T n e')) (npA t np) (nsA t ns) fu m3 hT3 (by omega) (by omega) (tE_le hs2) (npA_le hnp hV) (nsA_le hns hV) (fun _ => a6) a7 b8 b9
          cases hf2 : fl T n d (tS T n e') (tE T n (tS T n e')) (npA t np) (nsA t ns) with
          | inl s2 =>
            rw [hf2] at hih
            obtain ⟨m', x', G⟩ := hih
            exact ⟨m', x', (CG.of F3).trans (by omega) G⟩
          | inr cs =>
            rw [hf2] at hih
            obtain ⟨m', x', G, g5, gl, gr⟩ := hih
            have gl' : ((t, a, b) :: cs).length = cs.length + 1 := rfl
            exact ⟨m', x', (CG.of F3).trans (by omega) G, by rw [g5, gl', Nat.add_assoc, Nat.add_comm 1], by rw [gl']; omega, ⟨by rw [G.2.2 3 r (by omega) (by omega)]; exact c3, by rw [G.2.2 4 r (by omega) (by omega)]; exact c4, by rw [G.2.2 5 r (by omega) (by omega)]; exact c5⟩, gr⟩
        · rw [if_neg c2, if_neg (show ¬ nI (T (tS T n e')) = (59 : Int32) from fun z => c2 ((nI_eq (by omega) (by omega)).mp (show nI (T (tS T n e')) = nI 59 from z)))]
          exact ⟨m3, rfl, CG.of F3⟩
def fS : (Nat → Nat) → List (Nat × Nat × Nat) → (Nat → Nat)
  | D, [] => D
  | D, c :: cs => fS (stp D c.1 c.2.1 c.2.2) cs
theorem fS_B : ∀ (cs : List (Nat × Nat × Nat)) (D : Nat → Nat), PB D → VL (D 0) (D 1) cs → PB (fS D cs) := by
  intro cs
  induction cs with
  | nil => intro D h _; exact h
  | cons c cs ih =>
    intro D h hV
    refine ih _ (PB_stp h hV.1) ?_
    rw [stp_0 hV.1.1, stp_1 hV.1.1 (fun a b => (hV.1.2.1 a b).1)]
    exact hV.2
def L5 (c : Nat) (D : Nat → Nat) (mem : zMem) (x : Option (Int32 × zMem)) : Nat ⊕ List (Nat × Nat × Nat) → Prop
  | .inl s => ∃ m', x = some (-1, m') ∧ m' 44 15 = nI s ∧ MF mem m'
  | .inr cs => ∃ m', x = some (nI (c + cs.length), m') ∧ PR (m' 47) (fS D cs) ∧ MF mem m'
theorem rd5 (hN : 300 ≤ N) : ∀ (d c s e fu : Nat) (D : Nat → Nat) (mem : zMem), RTm mem n T → c + (d + 1) = 14 → d + 1 < fu → e ≤ n → PB D → PR (mem 47) D → mem 44 13 = nI e → L5 c D mem (f_X5_reads_35 N fu mem (nI c) 1) (fl T n (d + 1) s e (D 0) (D 1)) := by
  intro d
  induction d with
  | zero =>
    intro c s e fu D mem hT hc hf he hB hR h13
    obtain ⟨fu, rfl⟩ : ∃ n', fu = n' + 2 := ⟨fu - 2, by omega⟩
    have hn := hT.1
    have hb := hB.1
    obtain ⟨m0, x0, t13, t14, t15, t16, f0, f0'⟩ := tok5 hN hT he h13
    have F0 : MF mem m0 := ⟨fun k a _ => f0 k a, f0'⟩
    have hq := rc5 (F0.rt hT) hN hB (by rw [f0 47 (by decide)]; exact hR) he t13 t14 t15
    obtain ⟨o1, o2⟩ := cR_ok (T := T) he hb.1 hb.2.1
    rw [f_X5_reads_35.eq_2, if_neg (show ¬ (1 : Int32) = 0 by decide), zb_of x0]
    unfold fl
    cases hcr : cR T n e (D 0) (D 1) with
    | inl s1 =>
      rw [hcr] at hq
      obtain ⟨m', x, y, F⟩ := hq
      dsimp only
      rw [zb_of x, if_pos rfl]
      exact ⟨m', rfl, y, F0.trans F⟩
    | inr q =>
      obtain ⟨t, a, b, e'⟩ := q
      obtain ⟨hV, he'⟩ := o2 t a b e' hcr
      rw [hcr] at hq
      obtain ⟨m1, x, y13, yR, F⟩ := hq
      dsimp only
      have F1 := F0.trans F
      obtain ⟨m2, x2, u13, u14, u15, u16, f2, f2'⟩ := tok5 hN (F1.rt hT) he' y13
      have F2 : MF mem m2 := F1.trans ⟨fun k a _ => f2 k a, f2'⟩
      have hT2 := F2.rt hT
      have hs2 : tS T n e' ≤ n := tS_le he'
      rw [zb_of x, if_neg (by decide), zb_of x2, u14]
      rcases tok_cases T n (tS T n e') with ⟨a1, b1, c1, d1⟩ | ⟨a1, b1, c1, d1, e1, g1⟩ | ⟨a1, b1, c1, d1, e1, g1⟩ | ⟨a1, b1, b2, c1, d1, g1⟩
      · rw [if_pos a1, b1, if_pos (show nI 0 = (0 : Int32) from rfl), if_pos rfl, nI_1, f_X5_reads_35.eq_2, if_pos rfl]
        exact ⟨m2, rfl, by rw [f2 47 (by decide)]; exact yR, F2⟩
      · rw [if_neg (show ¬ n ≤ tS T n e' by omega), if_neg (show ¬ T (tS T n e') = 59 by omega), c1, if_neg (show ¬ nI 1 = (0 : Int32) by decide), if_neg (by decide), if_neg (show ¬ nI 1 = (3 : Int32) by decide)]
        exact ⟨m2, rfl, u15, F2⟩
      · rw [if_neg (show ¬ n ≤ tS T n e' by omega), if_neg (show ¬ T (tS T n e') = 59 by omega), c1, if_neg (show ¬ nI 2 = (0 : Int32) by decide), if_neg (by decide), if_neg (show ¬ nI 2 = (3 : Int32) by decide)]
        exact ⟨m2, rfl, u15, F2⟩
      · obtain ⟨v1, v2⟩ := hT2.2.2 (tS T n e') a1
        rw [if_neg (show ¬ n ≤ tS T n e' by omega), c1, if_neg (show ¬ nI 3 = (0 : Int32) by decide), if_neg (by decide), if_pos (show nI 3 = (3 : Int32) from rfl), u15, zgd_t (zin_nI (by omega) (by omega)), nI_clamp (by omega), v2]
        by_cases c2 : T (tS T n e') = 59
        · rw [if_pos c2, if_pos (show nI (T (tS T n e')) = (59 : Int32) by rw [c2]; rfl), nI_1, if_pos (show nI (c + 1) = (14 : Int32) by rw [hc]; rfl)]
          exact ⟨m2, rfl, u15, F2⟩
        · rw [if_neg c2, if_neg (show ¬ nI (T (tS T n e')) = (59 : Int32) from fun z => c2 ((nI_eq (by omega) (by omega)).mp (show nI (T (tS T n e')) = nI 59 from z)))]
          exact ⟨m2, rfl, u15, F2⟩
  | succ d ih =>
    intro c s e fu D mem hT hc hf he hB hR h13
    obtain ⟨fu, rfl⟩ : ∃ n', fu = n' + 2 := ⟨fu - 2, by omega⟩
    have hn := hT.1
    have hb := hB.1
    obtain ⟨m0, x0, t13, t14, t15, t16, f0, f0'⟩ := tok5 hN hT he h13
    have F0 : MF mem m0 := ⟨fun k a _ => f0 k a, f0'⟩
    have hq := rc5 (F0.rt hT) hN hB (by rw [f0 47 (by decide)]; exact hR) he t13 t14 t15
    obtain ⟨o1, o2⟩ := cR_ok (T := T) he hb.1 hb.2.1
    have efl : fl T n (d + 1 + 1) s e (D 0) (D 1) = (match cR T n e (D 0) (D 1) with
      | .inl s => .inl s
      | .inr (t, a, b, e') => if n ≤ tS T n e' then .inr [(t, a, b)] else if T (tS T n e') = 59 then (match fl T n (d + 1) (tS T n e') (tE T n (tS T n e')) (npA t (D 0)) (nsA t (D 1)) with
        | .inl s => .inl s
        | .inr cs => .inr ((t, a, b) :: cs)) else .inl (tS T n e')) := rfl
    rw [efl, f_X5_reads_35.eq_2, if_neg (show ¬ (1 : Int32) = 0 by decide), zb_of x0]
    cases hcr : cR T n e (D 0) (D 1) with
    | inl s1 =>
      rw [hcr] at hq
      obtain ⟨m', x, y, F⟩ := hq
      dsimp only
      rw [zb_of x, if_pos rfl]
      exact ⟨m', rfl, y, F0.trans F⟩
    | inr q =>
      obtain ⟨t, a, b, e'⟩ := q
      obtain ⟨hV, he'⟩ := o2 t a b e' hcr
      rw [hcr] at hq
      obtain ⟨m1, x, y13, yR, F⟩ := hq
      dsimp only
      have F1 := F0.trans F
      obtain ⟨m2, x2, u13, u14, u15, u16, f2, f2'⟩ := tok5 hN (F1.rt hT) he' y13
      have F2 : MF mem m2 := F1.trans ⟨fun k a _ => f2 k a, f2'⟩
      have hT2 := F2.rt hT
      have hs2 : tS T n e' ≤ n := tS_le he'
      rw [zb_of x, if_neg (by decide), zb_of x2, u14]
      rcases tok_cases T n (tS T n e') with ⟨a1, b1, c1, d1⟩ | ⟨a1, b1, c1, d1, e1, g1⟩ | ⟨a1, b1, c1, d1, e1, g1⟩ | ⟨a1, b1, b2, c1, d1, g1⟩
      · rw [if_pos a1, b1, if_pos (show nI 0 = (0 : Int32) from rfl), if_pos rfl, nI_1, f_X5_reads_35.eq_2, if_pos rfl]
        exact ⟨m2, rfl, by rw [f2 47 (by decide)]; exact yR, F2⟩
      · rw [if_neg (show ¬ n ≤ tS T n e' by omega), if_neg (show ¬ T (tS T n e') = 59 by omega), c1, if_neg (show ¬ nI 1 = (0 : Int32) by decide), if_neg (by decide), if_neg (show ¬ nI 1 = (3 : Int32) by decide)]
        exact ⟨m2, rfl, u15, F2⟩
      · rw [if_neg (show ¬ n ≤ tS T n e' by omega), if_neg (show ¬ T (tS T n e') = 59 by omega), c1, if_neg (show ¬ nI 2 = (0 : Int32) by decide), if_neg (by decide), if_neg (show ¬ nI 2 = (3 : Int32) by decide)]
        exact ⟨m2, rfl, u15, F2⟩
      · obtain ⟨v1, v2⟩ := hT2.2.2 (tS T n e') a1
        rw [if_neg (show ¬ n ≤ tS T n e' by omega), c1, if_neg (show ¬ nI 3 = (0 : Int32) by decide), if_neg (by decide), if_pos (show nI 3 = (3 : Int32) from rfl), u15, zgd_t (zin_nI (by omega) (by omega)), nI_clamp (by omega), v2]
        by_cases c2 : T (tS T n e') = 59
        · rw [if_pos c2, if_pos (show nI (T (tS T n e')) = (59 : Int32) by rw [c2]; rfl), nI_1, if_neg (show ¬ nI (c + 1) = (14 : Int32) from fun z => by have := (nI_eq (by omega) (by omega)).mp (show nI (c + 1) = nI 14 from z); omega)]
          have hB2 := PB_stp hB hV
          have hih := ih (c + 1) (tS T n e') (tE T n (tS T n e')) (fu + 1) (stp D t a b) m2 hT2 (by omega) (by omega) (tE_le hs2) hB2 (by rw [f2 47 (by decide)]; exact yR) u13
          rw [stp_0 hV.1, stp_1 hV.1 (fun p q => (hV.2.1 p q).1)] at hih
          cases hf2 : fl T n (d + 1) (tS T n e') (tE T n (tS T n e')) (npA t (D 0)) (nsA t (D 1)) with
          | inl s2 =>
            rw [hf2] at hih
            obtain ⟨m', x', y', G⟩ := hih
            exact ⟨m', x', y', F2.trans G⟩
          | inr cs =>
            rw [hf2] at hih
            obtain ⟨m', x', y', G⟩ := hih
            have gl' : ((t, a, b) :: cs).length = cs.length + 1 := rfl
            exact ⟨m', by rw [x', gl', Nat.add_assoc, Nat.add_comm 1], y', F2.trans G⟩
        · rw [if_neg c2, if_neg (show ¬ nI (T (tS T n e')) = (59 : Int32) from fun z => c2 ((nI_eq (by omega) (by omega)).mp (show nI (T (tS T n e')) = nI 59 from z)))]
          exact ⟨m2, rfl, u15, F2⟩
end GI
