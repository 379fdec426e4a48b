/-! clauses: D is the parish as the reference's row has it, in plain numbers -/
def PB (D : Nat → Nat) : Prop := (D 0 ≤ 8 ∧ D 1 ≤ 6 ∧ D 2 ≤ 9 ∧ D 3 ≤ 5 ∧ D 4 ≤ 9) ∧ (∀ k, k < D 0 → D (5 + k) ≤ 3 ∧ D (13 + k) ≤ 20 ∧ 1 ≤ D (21 + k) ∧ D (21 + k) ≤ 30) ∧ ∀ k, k < D 1 → D (29 + k) ≤ 40
def PC (mem : zMem) (D : Nat → Nat) : Prop := (mem 6 4 = nI (D 0) ∧ mem 6 5 = nI (D 1) ∧ mem 6 6 = nI (D 2) ∧ mem 6 7 = nI (D 3) ∧ mem 6 8 = nI (D 4)) ∧ (∀ k, k < D 0 → mem 7 k = nI (D (5 + k)) ∧ mem 8 k = nI (D (13 + k)) ∧ mem 9 k = nI (D (21 + k))) ∧ ∀ k, k < D 1 → mem 10 k = nI (D (29 + k))
def PR (h : Nat → Int32) (D : Nat → Nat) : Prop := (h 0 = nI (D 0) ∧ h 1 = nI (D 1) ∧ h 2 = nI (D 2) ∧ h 3 = nI (D 3) ∧ h 4 = nI (D 4)) ∧ (∀ k, k < D 0 → h (5 + k) = nI (D (5 + k)) ∧ h (13 + k) = nI (D (13 + k)) ∧ h (21 + k) = nI (D (21 + k))) ∧ ∀ k, k < D 1 → h (29 + k) = nI (D (29 + k))
theorem RP_of {mem : zMem} {D : Nat → Nat} (hB : PB D) (hC : PC mem D) (hR : PR (mem 46) D) : RP mem (D 0) (D 1) (D 2) (D 3) (D 4) (fun k => D (5 + k)) (fun k => D (13 + k)) (fun k => D (21 + k)) (fun k => D (29 + k)) :=
  ⟨hB.1, hC.1, hR.1, fun k hk => ⟨(hB.2.1 k hk).1, (hB.2.1 k hk).2.1, (hB.2.1 k hk).2.2, (hC.2.1 k hk).1, (hC.2.1 k hk).2.1, (hC.2.1 k hk).2.2, (hR.2.1 k hk).1, (hR.2.1 k hk).2.1, (hR.2.1 k hk).2.2⟩, fun k hk => ⟨hB.2.2 k hk, hC.2.2 k hk, hR.2.2 k hk⟩⟩
def stp (D : Nat → Nat) (t a b : Nat) : Nat → Nat := fun j => if t = 0 then (if j = 3 then 1 else 0) else if t ≤ 4 then (if j = 0 then D 0 + 1 else if j = 5 + D 0 then t - 1 else if j = 13 + D 0 then a else if j = 21 + D 0 then b else D j) else if t = 5 then (if j = 1 then D 1 + 1 else if j = 29 + D 1 then a else D j) else if j = t - 4 then a else D j
def npA (t np : Nat) : Nat := if t = 0 then 0 else if t ≤ 4 then np + 1 else np
def nsA (t ns : Nat) : Nat := if t = 0 then 0 else if t = 5 then ns + 1 else ns
def VC (np ns t a b : Nat) : Prop := t ≤ 8 ∧ (1 ≤ t → t ≤ 4 → np < 8 ∧ a ≤ 20 ∧ 1 ≤ b ∧ b ≤ 30) ∧ (t = 5 → ns < 6 ∧ a ≤ 40) ∧ (t = 6 → a ≤ 9) ∧ (t = 7 → a ≤ 5) ∧ (t = 8 → a ≤ 9)
theorem stp_0 {D : Nat → Nat} {t a b : Nat} (h : t ≤ 8) : stp D t a b 0 = npA t (D 0) := by
  unfold stp npA
  by_cases c0 : t = 0
  · rw [if_pos c0, if_pos c0, if_neg (by decide)]
  · rw [if_neg c0, if_neg c0]
    by_cases c1 : t ≤ 4
    · rw [if_pos c1, if_pos c1, if_pos rfl]
    · rw [if_neg c1, if_neg c1]
      by_cases c2 : t = 5
      · rw [if_pos c2, if_neg (by decide), if_neg (by omega)]
      · rw [if_neg c2, if_neg (by omega)]
theorem stp_1 {D : Nat → Nat} {t a b : Nat} (h : t ≤ 8) (hn : 1 ≤ t → t ≤ 4 → D 0 < 8) : stp D t a b 1 = nsA t (D 1) := by
  unfold stp nsA
  by_cases c0 : t = 0
  · rw [if_pos c0, if_pos c0, if_neg (by decide)]
  · rw [if_neg c0, if_neg c0]
    by_cases c1 : t ≤ 4
    · rw [if_pos c1, if_neg (by decide), if_neg (by omega), if_neg (by omega), if_neg (by omega), if_neg (by omega)]
    · rw [if_neg c1]
      by_cases c2 : t = 5
      · rw [if_pos c2, if_pos rfl, if_pos c2]
      · rw [if_neg c2, if_neg (by omega), if_neg c2]
theorem stp_part {D : Nat → Nat} {t a b : Nat} (h1 : 1 ≤ t) (h4 : t ≤ 4) : stp D t a b = fun j => if j = 0 then D 0 + 1 else if j = 5 + D 0 then t - 1 else if j = 13 + D 0 then a else if j = 21 + D 0 then b else D j := by
  funext j
  unfold stp
  rw [if_neg (show ¬ t = 0 by omega), if_pos h4]
theorem stp_soul {D : Nat → Nat} {a b : Nat} : stp D 5 a b = fun j => if j = 1 then D 1 + 1 else if j = 29 + D 1 then a else D j := rfl
theorem stp_set {D : Nat → Nat} {t a b : Nat} (h : 6 ≤ t) : stp D t a b = fun j => if j = t - 4 then a else D j := by
  funext j
  unfold stp
  rw [if_neg (show ¬ t = 0 by omega), if_neg (show ¬ t ≤ 4 by omega), if_neg (show ¬ t = 5 by omega)]
theorem k8 {t : Nat} (h : t ≤ 8) : t = 0 ∨ (1 ≤ t ∧ t ≤ 4) ∨ t = 5 ∨ (6 ≤ t ∧ t ≤ 8) := by omega
theorem PB_stp {D : Nat → Nat} {t a b : Nat} (hB : PB D) (hV : VC (D 0) (D 1) t a b) : PB (stp D t a b) := by
  obtain ⟨⟨b0, b1, b2, b3, b4⟩, bp, bs⟩ := hB
  obtain ⟨v8, vp, vs, v6, v7, v9⟩ := hV
  rcases k8 v8 with rfl | ⟨h1, h4⟩ | rfl | ⟨h6, h8⟩
  · refine ⟨⟨show (0 : Nat) ≤ 8 by decide, show (0 : Nat) ≤ 6 by decide, show (0 : Nat) ≤ 9 by decide, show (1 : Nat) ≤ 5 by decide, show (0 : Nat) ≤ 9 by decide⟩, fun k hk => absurd hk (Nat.not_lt_zero k), fun k hk => absurd hk (Nat.not_lt_zero k)⟩
  · obtain ⟨q0, q1, q2, q3⟩ := vp h1 h4
    rw [stp_part h1 h4]
    refine ⟨⟨?_, ?_, ?_, ?_, ?_⟩, fun k hk => ?_, fun k hk => ?_⟩
    · show D 0 + 1 ≤ 8
      omega
    · show (if 1 = 0 then D 0 + 1 else if 1 = 5 + D 0 then t - 1 else if 1 = 13 + D 0 then a else if 1 = 21 + D 0 then b else D 1) ≤ 6
      rw [if_neg (by omega), if_neg (by omega), if_neg (by omega), if_neg (by omega)]
      exact b1
    · show (if 2 = 0 then D 0 + 1 else if 2 = 5 + D 0 then t - 1 else if 2 = 13 + D 0 then a else if 2 = 21 + D 0 then b else D 2) ≤ 9
      rw [if_neg (by omega), if_neg (by omega), if_neg (by omega), if_neg (by omega)]
      exact b2
    · show (if 3 = 0 then D 0 + 1 else if 3 = 5 + D 0 then t - 1 else if 3 = 13 + D 0 then a else if 3 = 21 + D 0 then b else D 3) ≤ 5
      rw [if_neg (by omega), if_neg (by omega), if_neg (by omega), if_neg (by omega)]
      exact b3
    · show (if 4 = 0 then D 0 + 1 else if 4 = 5 + D 0 then t - 1 else if 4 = 13 + D 0 then a else if 4 = 21 + D 0 then b else D 4) ≤ 9
      rw [if_neg (by omega), if_neg (by omega), if_neg (by omega), if_neg (by omega)]
      exact b4
    · have hk : k < D 0 + 1 := hk
      dsimp only
      by_cases e : k = D 0
      · subst e
        rw [if_neg (by omega), if_pos rfl, if_neg (by omega), if_neg (by omega), if_pos rfl, if_neg (by omega), if_neg (by omega), if_neg (by omega), if_pos rfl]
        omega
      · have := bp k (by omega)
        rw [if_neg (by omega), if_neg (by omega), if_neg (by omega), if_neg (by omega), if_neg (by omega), if_neg (by omega), if_neg (by omega), if_neg (by omega), if_neg (by omega), if_neg (by omega), if_neg (by omega), if_neg (by omega)]
        exact this
    · have hk : k < (if 1 = 0 then D 0 + 1 else if 1 = 5 + D 0 then t - 1 else if 1 = 13 + D 0 then a else if 1 = 21 + D 0 then b else D 1) := hk
      rw [if_neg (by omega), if_neg (by omega), if_neg (by omega), if_neg (by omega)] at hk
      dsimp only
      rw [if_neg (by omega), if_neg (by omega), if_neg (by omega), if_neg (by omega)]
      exact bs k hk
  · obtain ⟨q0, q1⟩ := vs rfl
    rw [stp_soul]
    refine ⟨⟨?_, ?_, ?_, ?_, ?_⟩, fun k hk => ?_, fun k hk => ?_⟩
    · dsimp only
      rw [if_neg (by omega), if_neg (by omega)]
      exact b0
    · show D 1 + 1 ≤ 6
      omega
    · dsimp only
      rw [if_neg (by omega), if_neg (by omega)]
      exact b2
    · dsimp only
      rw [if_neg (by omega), if_neg (by omega)]
      exact b3
    · dsimp only
      rw [if_neg (by omega), if_neg (by omega)]
      exact b4
    · dsimp only at hk
      rw [if_neg (by omega), if_neg (by omega)] at hk
      dsimp only
      rw [if_neg (by omega), if_neg (by omega), if_neg (by omega), if_neg (by omega), if_neg (by omega), if_neg (by omega)]
      exact bp k hk
    · have hk : k < D 1 + 1 := hk
      dsimp only
      rw [if_neg (by omega)]
      by_cases e : k = D 1
      · rw [if_pos (by omega)]
        exact q1
      · rw [if_neg (by omega)]
        exact bs k (by omega)
  · rw [stp_set h6]
    refine ⟨⟨?_, ?_, ?_, ?_, ?_⟩, fun k hk => ?_, fun k hk => ?_⟩
    · dsimp only
      rw [if_neg (by omega)]
      exact b0
    · dsimp only
      rw [if_neg (by omega)]
      exact b1
    · dsimp only
      by_cases e : t = 6
      · rw [if_pos (by omega)]
        exact v6 e
      · rw [if_neg (by omega)]
        exact b2
    · dsimp only
      by_cases e : t = 7
      · rw [if_pos (by omega)]
        exact v7 e
      · rw [if_neg (by omega)]
        exact b3
    · dsimp only
      by_cases e : t = 8
      · rw [if_pos (by omega)]
        exact v9 e
      · rw [if_neg (by omega)]
        exact b4
    · dsimp only at hk
      rw [if_neg (by omega)] at hk
      dsimp only
      rw [if_neg (by omega), if_neg (by omega), if_neg (by omega)]
      exact bp k hk
    · dsimp only at hk
      rw [if_neg (by omega)] at hk
      dsimp only
      rw [if_neg (by omega)]
      exact bs k hk
def mf (t : Nat) : Nat := if t = 5 then 40 else if t = 6 then 9 else if t = 7 then 5 else if t = 8 then 9 else 20
/-- a clause from its second token on, from its first one on -/
def cR3 (T : Nat → Nat) (n t a e2 : Nat) : Nat ⊕ (Nat × Nat × Nat × Nat) := if okB T n (tS T n e2) 1 30 = false then .inl (tS T n e2) else .inr (t, a, tV T n (tS T n e2), tE T n (tS T n e2))
def cR2 (T : Nat → Nat) (n e1 t : Nat) : Nat ⊕ (Nat × Nat × Nat × Nat) := if okB T n (tS T n e1) 0 (mf t) = false then .inl (tS T n e1) else if 5 ≤ t then .inr (t, tV T n (tS T n e1), 0, tE T n (tS T n e1)) else cR3 T n t (tV T n (tS T n e1)) (tE T n (tS T n e1))
def cR1 (T : Nat → Nat) (n s1 e1 t np ns : Nat) : Nat ⊕ (Nat × Nat × Nat × Nat) := if t = 9 then .inl s1 else if t = 0 then .inr (0, 0, 0, e1) else if (t ≤ 4 ∧ np = 8) ∨ (t = 5 ∧ ns = 6) then .inl s1 else cR2 T n e1 t
def cR (T : Nat → Nat) (n e np ns : Nat) : Nat ⊕ (Nat × Nat × Nat × Nat) := cR1 T n (tS T n e) (tE T n (tS T n e)) (wi T (tS T n e) (tE T n (tS T n e)) 9 0) np ns
theorem cR_ok {T : Nat → Nat} {n e np ns : Nat} (he : e ≤ n) (hnp : np ≤ 8) (hns : ns ≤ 6) : (∀ s, cR T n e np ns = .inl s → s ≤ n) ∧ ∀ t a b e', cR T n e np ns = .inr (t, a, b, e') → VC np ns t a b ∧ e' ≤ n := by
  have h1 : tS T n e ≤ n := tS_le he
  have hw := wi_le T (tS T n e) (tE T n (tS T n e)) 9 0
  unfold cR
  generalize tS T n e = s1 at h1 hw ⊢
  have h2 : tE T n s1 ≤ n := tE_le h1
  generalize tE T n s1 = e1 at h2 hw ⊢
  generalize wi T s1 e1 9 0 = t at hw ⊢
  have h3 : tS T n e1 ≤ n := tS_le h2
  have h4 : tE T n (tS T n e1) ≤ n := tE_le h3
  have h5 : tS T n (tE T n (tS T n e1)) ≤ n := tS_le h4
  have h6 : tE T n (tS T n (tE T n (tS T n e1))) ≤ n := tE_le h5
  unfold cR1
  by_cases c9 : t = 9
  · rw [if_pos c9]
    exact ⟨fun s h => by injection h with h; omega, fun _ _ _ _ h => (nomatch h)⟩
  · rw [if_neg c9]
    by_cases c0 : t = 0
    · rw [if_pos c0]
      refine ⟨fun _ h => (nomatch h), fun t' a b e' h => ?_⟩
      injection h with h
      injection h with q1 h
      injection h with q2 h
      injection h with q3 q4
      subst q1 q2 q3 q4
      exact ⟨⟨by omega, fun z => by omega, fun z => by omega, fun z => by omega, fun z => by omega, fun z => by omega⟩, h2⟩
    · rw [if_neg c0]
      by_cases c1 : (t ≤ 4 ∧ np = 8) ∨ (t = 5 ∧ ns = 6)
      · rw [if_pos c1]
        exact ⟨fun s h => by injection h with h; omega, fun _ _ _ _ h => (nomatch h)⟩
      · rw [if_neg c1]
        unfold cR2
        by_cases c2 : okB T n (tS T n e1) 0 (mf t) = false
        · rw [if_pos c2]
          exact ⟨fun s h => by injection h with h; omega, fun _ _ _ _ h => (nomatch h)⟩
        · rw [if_neg c2]
          obtain ⟨k1, k2, k3⟩ := okB_iff.mp (Bool.not_eq_false _ |>.mp c2)
          by_cases c5 : 5 ≤ t
          · rw [if_pos c5]
            refine ⟨fun _ h => (nomatch h), fun t' a b e' h => ?_⟩
            injection h with h
            injection h with q1 h
            injection h with q2 h
            injection h with q3 q4
            subst q1 q2 q3 q4
            unfold mf at k3
            refine ⟨⟨by omega, fun z => by omega, fun z => ?_, fun z => ?_, fun z => ?_, fun z => ?_⟩, h4⟩
            · rw [if_pos z] at k3
              exact ⟨by omega, k3⟩
            · rw [if_neg (by omega), if_pos z] at k3
              exact k3
            · rw [if_neg (by omega), if_neg (by omega), if_pos z] at k3
              exact k3
            · rw [if_neg (by omega), if_neg (by omega), if_neg (by omega), if_pos z] at k3
              exact k3
          · rw [if_neg c5]
            unfold cR3
            by_cases c3 : okB T n (tS T n (tE T n (tS T n e1))) 1 30 = false
            · rw [if_pos c3]
              exact ⟨fun s h => by injection h with h; omega, fun _ _ _ _ h => (nomatch h)⟩
            · rw [if_neg c3]
              obtain ⟨l1, l2, l3⟩ := okB_iff.mp (Bool.not_eq_false _ |>.mp c3)
              refine ⟨fun _ h => (nomatch h), fun t' a b e' h => ?_⟩
              injection h with h
              injection h with q1 h
              injection h with q2 h
              injection h with q3 q4
              subst q1 q2 q3 q4
              unfold mf at k3
              rw [if_neg (by omega), if_neg (by omega), if_neg (by omega), if_neg (by omega)] at k3
              exact ⟨⟨by omega, fun _ _ => ⟨by omega, k3, l2, l3⟩, fun z => by omega, fun z => by omega, fun z => by omega, fun z => by omega⟩, h6⟩
def CF (r : Nat) (m m' : zMem) : Prop := (∀ k, k ≠ 1 → k ≠ 3 → k ≠ 4 → k ≠ 5 → m' k = m k) ∧ (∀ j, j ≤ 4 → m' 1 j = m 1 j) ∧ ∀ k j, k = 3 ∨ k = 4 ∨ k = 5 → j ≠ r → m' k j = m k j
theorem CF.trans {r : Nat} {m m' m'' : zMem} (h : CF r m m') (h' : CF r m' m'') : CF r m m'' := ⟨fun k a b c d => (h'.1 k a b c d).trans (h.1 k a b c d), fun j hj => (h'.2.1 j hj).trans (h.2.1 j hj), fun k j a b => (h'.2.2 k j a b).trans (h.2.2 k j a b)⟩
theorem CF.one {r : Nat} {m m' : zMem} (h : ∀ k, k ≠ 1 → m' k = m k) (h' : ∀ j, j ≤ 4 → m' 1 j = m 1 j) : CF r m m' := ⟨fun k a _ _ _ => h k a, h', fun k j a _ => by rw [h k (by omega)]⟩
theorem CF.row {r k : Nat} {m : zMem} {v : Int32} (hk : k = 3 ∨ k = 4 ∨ k = 5) : CF r m (wr m k r v) := ⟨fun k' a b c d => wr_ne (by omega), fun j hj => by rw [wr_ne (by omega)], fun k' j a b => by
  by_cases e : k' = k
  · subst e
    rw [wr_at, upd_ne b]
  · rw [wr_ne e]⟩
def zlow (n : Nat) (T : Nat → Nat) (mem : zMem) : Prop := n ≤ 160 ∧ mem 1 4 = nI n ∧ ∀ j, j < n → T j ≤ 255 ∧ mem 2 j = nI (T j)
theorem CF.rt {r n : Nat} {T : Nat → Nat} {m m' : zMem} (h : CF r m m') (hT : RTc m n T) : RTc m' n T := hT.fr (h.2.1 4 (by omega)) (h.1 2 (by decide) (by decide) (by decide) (by decide))
theorem w4_mem {N : Nat} {m m' : zMem} {a l u x : Int32} (h : f_X4_isWithin N m a l u = some (x, m)) : f_X4_isWithin N m' a l u = some (x, m') := by
  by_cases c : a < l ∨ u < a
  · rw [w4_out c] at h ⊢
    injection h with h
    injection h with h _
    rw [h]
  · rw [w4_in c] at h ⊢
    injection h with h
    injection h with h _
    rw [h]
section GH
variable {N : Nat} {n : Nat} {T : Nat → Nat}
theorem ofp4 {mem : zMem} {t : Nat} (ht : t ≤ 8) : f_X2_isOfPart N mem (nI t) = some (if 1 ≤ t ∧ t ≤ 4 then 1 else 0, mem) := by
  unfold f_X2_isOfPart
  rw [zb_of (show f_X4_isWithin N mem (nI t) (1 : Int32) (4 : Int32) = _ from wn4 (lo := 1) (hi := 4) (by omega) (by omega) (by omega))]
  split <;> rfl
theorem mf4 {mem : zMem} {t : Nat} (ht : t ≤ 8) : f_X2_mostFirst N mem (nI t) = some (nI (mf t), mem) := by
  have : t = 0 ∨ t = 1 ∨ t = 2 ∨ t = 3 ∨ t = 4 ∨ t = 5 ∨ t = 6 ∨ t = 7 ∨ t = 8 := by omega
  rcases this with rfl | rfl | rfl | rfl | rfl | rfl | rfl | rfl | rfl <;> rfl
theorem cnt4 {m : zMem} {t np ns : Nat} (ht : t ≤ 8) (h8 : m 1 8 = nI np) (h9 : m 1 9 = nI ns) : ∃ m' : zMem, f_X2_countPartsAndSouls N m (nI t) = some ((), m') ∧ m' 1 8 = nI (npA t np) ∧ m' 1 9 = nI (nsA t ns) ∧ (∀ k, k ≠ 1 → m' k = m k) ∧ ∀ j, j ≠ 8 → j ≠ 9 → m' 1 j = m 1 j := by
  unfold f_X2_countPartsAndSouls npA nsA
  by_cases c0 : t = 0
  · rw [if_pos (by rw [c0]; rfl), if_pos c0, if_pos c0]
    refine ⟨_, rfl, ?_, ?_, fun k hk => ?_, fun j a b => ?_⟩
    · rw [wr_at, upd_ne (by decide), wr_at, upd_at]
      rfl
    · rw [wr_at, upd_at]
      rfl
    · rw [wr_ne hk, wr_ne hk]
    · rw [wr_at, upd_ne b, wr_at, upd_ne a]
  · rw [if_neg (show ¬ nI t = (0 : Int32) from fun z => c0 ((nI_eq (by omega) (by omega)).mp (show nI t = nI 0 from z))), if_neg c0, if_neg c0]
    by_cases c5 : t = 5
    · rw [if_pos (by rw [c5]; rfl), if_neg (by omega), if_pos c5, zlet_e]
      refine ⟨_, rfl, ?_, ?_, fun k hk => wr_ne hk, fun j a b => ?_⟩
      · rw [wr_at, upd_ne (by decide)]
        exact h8
      · rw [wr_at, upd_at, h9, nI_1]
      · rw [wr_at, upd_ne b]
    · rw [if_neg (show ¬ nI t = (5 : Int32) from fun z => c5 ((nI_eq (by omega) (by omega)).mp (show nI t = nI 5 from z))), if_neg c5, zb_of (ofp4 ht)]
      by_cases c4 : t ≤ 4
      · rw [if_pos (show 1 ≤ t ∧ t ≤ 4 by omega), if_neg (by decide), if_pos c4, zlet_e]
        refine ⟨_, rfl, ?_, ?_, fun k hk => wr_ne hk, fun j a b => ?_⟩
        · rw [wr_at, upd_at, h8, nI_1]
        · rw [wr_at, upd_ne (by decide)]
          exact h9
        · rw [wr_at, upd_ne a]
      · rw [if_neg (show ¬ (1 ≤ t ∧ t ≤ 4) by omega), if_pos rfl, if_neg c4]
        exact ⟨m, rfl, h8, h9, fun _ _ => rfl, fun _ _ _ => rfl⟩
def Q4 (r np ns : Nat) (mem : zMem) (x : Option (Int32 × zMem)) : Nat ⊕ (Nat × Nat × Nat × Nat) → Prop
  | .inl s => ∃ m', x = some (0, m') ∧ m' 1 6 = nI s ∧ CF r mem m'
  | .inr (t, a, b, e') => ∃ m', x = some (1, m') ∧ CF r mem m' ∧ m' 1 7 = nI e' ∧ m' 1 8 = nI (npA t np) ∧ m' 1 9 = nI (nsA t ns) ∧ m' 3 r = nI t ∧ m' 4 r = nI a ∧ m' 5 r = nI b
theorem rc4 {mem : zMem} (hT : RTc mem n T) (hN : 300 ≤ N) {e np ns r : Nat} (he : e ≤ n) (hr : r < 14) (h7 : mem 1 7 = nI e) (h8 : mem 1 8 = nI np) (h9 : mem 1 9 = nI ns) (hnp : np ≤ 8) (hns : ns ≤ 6) : Q4 r np ns mem (f_X2_readClause N mem (nI r)) (cR T n e np ns) := by
  have hn := hT.1
  obtain ⟨m1, x1, a6, a7, fr, fr1⟩ := nt4 hT hN he h7
  have h1 : tS T n e ≤ n := tS_le he
  have hw := wi_le T (tS T n e) (tE T n (tS T n e)) 9 0
  have hse := tE_ge T n (tS T n e)
  have h2 : tE T n (tS T n e) ≤ n := tE_le h1
  have F1 : CF r mem m1 := CF.one fr (fun j hj => fr1 j (by omega) (by omega))
  have w1 := word4 (F1.rt hT) hN hse h2 a6 a7
  unfold f_X2_readClause cR
  rw [zb_of x1, zb_of w1]
  generalize hs1 : tS T n e = s1 at *
  generalize he1 : tE T n s1 = e1 at *
  generalize ht : wi T s1 e1 9 0 = t at *
  have hz : zin (nI r) 14 = true := zin_nI hr (by omega)
  rw [zgd_t hz, zlet_e, zgd_t hz, zlet_e, zgd_t hz, zlet_e, nI_clamp (by omega)]
  generalize hv : (if t < 9 then nI t else (-1 : Int32)) = v
  have F2 : CF r mem (wr (wr (wr m1 3 r v) 4 r 0) 5 r 0) := ((F1.trans (CF.row (by omega))).trans (CF.row (by omega))).trans (CF.row (by omega))
  have g1 : (wr (wr (wr m1 3 r v) 4 r 0) 5 r 0) 1 = m1 1 := by rw [wr_ne (by decide), wr_ne (by decide), wr_ne (by decide)]
  have g3 : (wr (wr (wr m1 3 r v) 4 r 0) 5 r 0) 3 r = v := by rw [wr_ne (by decide), wr_ne (by decide), wr_at, upd_at]
  have g4 : (wr (wr (wr m1 3 r v) 4 r 0) 5 r 0) 4 r = 0 := by rw [wr_ne (by decide), wr_at, upd_at]
  have g5 : (wr (wr (wr m1 3 r v) 4 r 0) 5 r 0) 5 r = 0 := by rw [wr_at, upd_at]
  generalize (wr (wr (wr m1 3 r v) 4 r 0) 5 r 0) = m2 at *
  unfold cR1
  by_cases c9 : t = 9
  · rw [if_pos c9, if_pos (by rw [← hv, if_neg (by omega)])]
    exact ⟨m2, rfl, by rw [g1]; exact a6, F2⟩
  · have hv2 : v = nI t := by rw [← hv, if_pos (by omega)]
    subst hv2
    rw [if_neg c9, if_neg (nI_m1 (by omega))]
    obtain ⟨m3, x3, b8, b9, f3, f3'⟩ := cnt4 (N := N) (m := m2) (t := t) (np := np) (ns := ns) (by omega) (by rw [g1, fr1 8 (by decide) (by decide)]; exact h8) (by rw [g1, fr1 9 (by decide) (by decide)]; exact h9)
    have F3 : CF r mem m3 := F2.trans (CF.one f3 (fun j hj => f3' j (by omega) (by omega)))
    have k6 : m3 1 6 = nI s1 := by rw [f3' 6 (by decide) (by decide), g1]; exact a6
    have k7 : m3 1 7 = nI e1 := by rw [f3' 7 (by decide) (by decide), g1]; exact a7
    have k3 : m3 3 r = nI t := by rw [f3 3 (by decide)]; exact g3
    have k4 : m3 4 r = 0 := by rw [f3 4 (by decide)]; exact g4
    have k5 : m3 5 r = 0 := by rw [f3 5 (by decide)]; exact g5
    rw [zb_of x3, b8, b9]
    have hA : npA t np ≤ 9 := by
      unfold npA
      split
      · omega
      · split <;> omega
    have hA2 : nsA t ns ≤ 7 := by
      unfold nsA
      split
      · omega
      · split <;> omega
    by_cases c0 : t = 0
    · rw [if_pos c0]
      have e1' : npA t np = 0 := by unfold npA; rw [if_pos c0]
      have e2' : nsA t ns = 0 := by unfold nsA; rw [if_pos c0]
      rw [e1', e2', if_neg (by decide), if_pos (by decide), if_pos (by rw [c0]; rfl)]
      refine ⟨m3, rfl, F3, k7, by rw [b8, c0, e1'.symm, c0], by rw [b9, c0, e2'.symm, c0], by rw [k3, c0], k4, k5⟩
    · rw [if_neg c0]
      by_cases c1 : (t ≤ 4 ∧ np = 8) ∨ (t = 5 ∧ ns = 6)
      · rw [if_pos c1]
        by_cases c8 : 8 < npA t np
        · rw [if_pos (show (8 : Int32) < nI (npA t np) from nI_lt (a := 8) c8 (by omega))]
          exact ⟨m3, rfl, k6, F3⟩
        · rw [if_neg (show ¬ (8 : Int32) < nI (npA t np) from nI_nlt (a := 8) (by omega) (by omega))]
          have : ¬ nsA t ns ≤ 6 := by
            intro z
            rcases c1 with c1 | c1
            · unfold npA at c8; rw [if_neg c0, if_pos c1.1] at c8; omega
            · unfold nsA at z; rw [if_neg c0, if_pos c1.1] at z; omega
          rw [if_neg (show ¬ nI (nsA t ns) ≤ (6 : Int32) from nI_ge (b := nsA t ns) (a := 6) (by omega) (by omega))]
          exact ⟨m3, rfl, k6, F3⟩
      · rw [if_neg c1]
        have q8 : ¬ 8 < npA t np := by
          intro z
          unfold npA at z
          rw [if_neg c0] at z
          by_cases c4 : t ≤ 4
          · rw [if_pos c4] at z; omega
          · rw [if_neg c4] at z; omega
        have q9 : nsA t ns ≤ 6 := by
          unfold nsA
          rw [if_neg c0]
          by_cases c4 : t = 5
          · rw [if_pos c4]; omega
          · rw [if_neg c4]; omega
        rw [if_neg (show ¬ (8 : Int32) < nI (npA t np) from nI_nlt (a := 8) (by omega) (by omega)), if_pos (show nI (nsA t ns) ≤ (6 : Int32) from nI_le (b := 6) q9 (by omega)), if_neg (show ¬ nI t = (0 : Int32) from fun z => c0 ((nI_eq (by omega) (by omega)).mp (show nI t = nI 0 from z)))]
        obtain ⟨m4, x4, d6, d7, f4, f4'⟩ := nt4 (F3.rt hT) hN h2 k7
        have F4 : CF r mem m4 := F3.trans (CF.one f4 (fun j hj => f4' j (by omega) (by omega)))
        have h3 : tS T n e1 ≤ n := tS_le h2
        unfold cR2
        rw [zb_of x4]
        generalize hs2 : tS T n e1 = s2 at *
        obtain ⟨v2, y2, z2⟩ := num4 (F4.rt hT) hN h3 d6 d7
        have h4 : tE T n s2 ≤ n := tE_le h3
        have hmf : mf t < 100 := by unfold mf; repeat (first | omega | split)
        obtain ⟨z2a, z2b⟩ := z2 0 (mf t) (by omega) hmf
        rw [zb_of y2, zgd_t hz, zlet_e, zgd_t hz, zb_of (mf4 (by omega)), wr_at, upd_at, zb_of (show f_X4_isWithin N (wr m4 4 r v2) v2 (0 : Int32) (nI (mf t)) = _ from w4_mem (m' := wr m4 4 r v2) z2b)]
        have F5 : CF r mem (wr m4 4 r v2) := F4.trans (CF.row (by omega))
        have l1 : (wr m4 4 r v2) 1 = m4 1 := wr_ne (by decide)
        have l3 : (wr m4 4 r v2) 3 r = nI t := by rw [wr_ne (by decide), f4 3 (by decide)]; exact k3
        have l4 : (wr m4 4 r v2) 4 r = v2 := by rw [wr_at, upd_at]
        have l5 : (wr m4 4 r v2) 5 r = 0 := by rw [wr_ne (by decide), f4 5 (by decide)]; exact k5
        have l8 : (wr m4 4 r v2) 1 8 = nI (npA t np) := by rw [l1, f4' 8 (by decide) (by decide)]; exact b8
        have l9 : (wr m4 4 r v2) 1 9 = nI (nsA t ns) := by rw [l1, f4' 9 (by decide) (by decide)]; exact b9
        generalize wr m4 4 r v2 = m5 at *
        by_cases c2 : okB T n s2 0 (mf t) = false
        · rw [if_pos c2, c2, if_pos (show b2i false = 0 from rfl)]
          exact ⟨m5, rfl, by rw [l1]; exact d6, F5⟩
        · have c2' : okB T n s2 0 (mf t) = true := (Bool.not_eq_false _).mp c2
          have hv2 := z2a (okB_iff.mp c2')
          rw [if_neg c2, c2', if_neg (show ¬ b2i true = 0 by decide), zb_of (ofp4 (by omega))]
          by_cases c5 : 5 ≤ t
          · rw [if_pos c5, if_neg (show ¬ (1 ≤ t ∧ t ≤ 4) by omega), if_pos rfl]
            exact ⟨m5, rfl, F5, by rw [l1]; exact d7, l8, l9, l3, by rw [l4, hv2], l5⟩
          · rw [if_neg c5, if_pos (show 1 ≤ t ∧ t ≤ 4 by omega), if_neg (by decide)]
            obtain ⟨m6, x6, o6, o7, f6, f6'⟩ := nt4 (F5.rt hT) hN h4 (by rw [l1]; exact d7)
            have F6 : CF r mem m6 := F5.trans (CF.one f6 (fun j hj => f6' j (by omega) (by omega)))
            have h5 : tS T n (tE T n s2) ≤ n := tS_le h4
            unfold cR3
            rw [zb_of x6]
            generalize hs3 : tS T n (tE T n s2) = s3 at *
            obtain ⟨v3, y3, z3⟩ := num4 (F6.rt hT) hN h5 o6 o7
            obtain ⟨z3a, z3b⟩ := z3 1 30 (by omega) (by omega)
            rw [zb_of y3, zgd_t hz, zlet_e, zgd_t hz, wr_at, upd_at, zb_of (show f_X4_isWithin N (wr m6 5 r v3) v3 (1 : Int32) (30 : Int32) = _ from w4_mem (m' := wr m6 5 r v3) z3b)]
            have F7 : CF r mem (wr m6 5 r v3) := F6.trans (CF.row (by omega))
            have p1 : (wr m6 5 r v3) 1 = m6 1 := wr_ne (by decide)
            have p3 : (wr m6 5 r v3) 3 r = nI t := by rw [wr_ne (by decide), f6 3 (by decide)]; exact l3
            have p4 : (wr m6 5 r v3) 4 r = v2 := by rw [wr_ne (by decide), f6 4 (by decide)]; exact l4
            have p5 : (wr m6 5 r v3) 5 r = v3 := by rw [wr_at, upd_at]
            have p8 : (wr m6 5 r v3) 1 8 = nI (npA t np) := by rw [p1, f6' 8 (by decide) (by decide)]; exact l8
            have p9 : (wr m6 5 r v3) 1 9 = nI (nsA t ns) := by rw [p1, f6' 9 (by decide) (by decide)]; exact l9
            generalize wr m6 5 r v3 = m7 at *
            by_cases c3 : okB T n s3 1 30 = false
            · rw [if_pos c3, c3]
              exact ⟨m7, rfl, by rw [p1]; exact o6, F7⟩
            · have c3' : okB T n s3 1 30 = true := (Bool.not_eq_false _).mp c3
              have hv3 := z3a (okB_iff.mp c3')
              rw [if_neg c3, c3']
              exact ⟨m7, rfl, F7, by rw [p1]; exact o7, p8, p9, p3, by rw [p4, hv2], by rw [p5, hv3]⟩
end GH
