/-! fault and kirk -/
section GO
variable {N : Nat}
def fres (m1 : zMem) (r : Int32) : Nat ⊕ List (Nat × Nat × Nat) → Prop
  | .inl s => r = nI s ∧ s ≤ 160
  | .inr cs => r = -1 ∧ m1 1 5 = nI cs.length ∧ cs.length ≤ 14 ∧ rws m1 0 cs
theorem fault4 (hN : 300 ≤ N) {mem : zMem} {n np ns : Nat} {T : Nat → Nat} (hT : RTc mem n T) (hnp : np ≤ 8) (hns : ns ≤ 6) : ∃ (r : Int32) (m1 : zMem), f_X2_firstFault N mem (nI np) (nI ns) = some (r, m1) ∧ CG 0 mem m1 ∧ fres m1 r (fl T n 14 0 0 np ns) := by
  have hn := hT.1
  generalize hm : wr (wr (wr (wr mem 1 8 (nI np)) 1 9 (nI ns)) 1 7 0) 1 5 0 = m0
  have f0 : ∀ k, k ≠ 1 → m0 k = mem k := fun k hk => by rw [← hm, wr_ne hk, wr_ne hk, wr_ne hk, wr_ne hk]
  have f1 : ∀ j, j ≤ 4 → m0 1 j = mem 1 j := fun j hj => by rw [← hm, wr_at, upd_ne (by omega), wr_at, upd_ne (by omega), wr_at, upd_ne (by omega), wr_at, upd_ne (by omega)]
  have e7 : m0 1 7 = nI 0 := by rw [← hm, wr_at, upd_ne (by decide), wr_at, upd_at]; rfl
  have e8 : m0 1 8 = nI np := by rw [← hm, wr_at, upd_ne (by decide), wr_at, upd_ne (by decide), wr_at, upd_ne (by decide), wr_at, upd_at]
  have e9 : m0 1 9 = nI ns := by rw [← hm, wr_at, upd_ne (by decide), wr_at, upd_ne (by decide), wr_at, upd_at]
  have F0 : CF 0 mem m0 := CF.one f0 f1
  have h := ff4 (N := N) (T := T) (n := n) hN 14 0 0 0 np ns N m0 (F0.rt hT) (by omega) (by omega) (by omega) hnp hns (fun z => by omega) e7 e8 e9
  have ho := (fl_ok (T := T) (n := n) 14 0 0 np ns (by omega) (by omega) hnp hns).1
  have hx : f_X2_firstFault N mem (nI np) (nI ns) = f_X2_firstFault_22 N N m0 (nI 0) := by
    unfold f_X2_firstFault
    rw [zlet_e, zlet_e, zlet_e, zlet_e, hm]
    rfl
  rw [hx]
  cases hf : fl T n 14 0 0 np ns with
  | inl s =>
    rw [hf] at h
    obtain ⟨m', x, G⟩ := h
    have := ho s hf
    exact ⟨nI s, m', x, (CG.of F0).trans (Nat.le_refl 0) G, rfl, by omega⟩
  | inr cs =>
    rw [hf] at h
    obtain ⟨m', x, G, g5, gl, gr⟩ := h
    rw [Nat.zero_add] at g5 gl
    exact ⟨-1, m', x, (CG.of F0).trans (Nat.le_refl 0) G, rfl, g5, gl, gr⟩
theorem reads_loop (hN : 300 ≤ N) : ∀ (d fu i : Nat) (mem : zMem), i + d = 35 → d < fu → f_X5_reads_2 N fu mem (nI i) = f_X5_reads_35 N N (wr (rset mem 47 (fun j => if i ≤ j ∧ j < 35 then mem 46 j else mem 47 j)) 44 13 0) 0 1 := by
  intro d
  induction d with
  | zero =>
    intro fu i mem hi hf
    obtain ⟨fu, rfl⟩ : ∃ n', fu = n' + 1 := ⟨fu - 1, by omega⟩
    rw [f_X5_reads_2.eq_2, if_pos (show (35 : Int32) ≤ nI i from nI_le (a := 35) (by omega) (by omega)), zlet_e, rset_self (mem := mem) (c := 47) (fun j => by rw [if_neg (by omega)])]
  | succ d ih =>
    intro fu i mem hi hf
    obtain ⟨fu, rfl⟩ : ∃ n', fu = n' + 1 := ⟨fu - 1, by omega⟩
    rw [f_X5_reads_2.eq_2, if_neg (show ¬ (35 : Int32) ≤ nI i from nI_ge (b := 35) (by omega) (by omega)), zgd_t (zin_nI (by omega) (by omega)), zgd_t (zin_nI (by omega) (by omega)), nI_clamp (by omega), zlet_e, nI_1, ih fu (i + 1) _ (by omega) (by omega), wr_rset mem 47 i (mem 46 i), rset_rset]
    refine congrArg (fun z => f_X5_reads_35 N N (wr z 44 13 0) 0 1) (rset_ext (fun j => ?_))
    rw [rset_at, rset_ne (show 46 ≠ 47 by decide)]
    by_cases h1 : i + 1 ≤ j ∧ j < 35
    · rw [if_pos h1, if_pos (by omega)]
    · rw [if_neg h1]
      by_cases h2 : j = i
      · subst h2
        rw [upd_at, if_pos (by omega)]
      · rw [upd_ne h2, if_neg (by omega)]
def rres (D : Nat → Nat) (m2 : zMem) (r : Int32) : Nat ⊕ List (Nat × Nat × Nat) → Prop
  | .inl s => r = -1 ∧ m2 44 15 = nI s
  | .inr cs => r = nI cs.length ∧ PR (m2 47) (fS D cs)
theorem reads5 (hN : 300 ≤ N) {mem : zMem} {n : Nat} {T : Nat → Nat} {D : Nat → Nat} (hT : RTm mem n T) (hB : PB D) (hR : PR (mem 46) D) : ∃ (r : Int32) (m2 : zMem), f_X5_reads N mem = some (r, m2) ∧ MF mem m2 ∧ rres D m2 r (fl T n 14 0 0 (D 0) (D 1)) := by
  have hb := hB.1
  generalize hm : wr (rset mem 47 (fun j => if 0 ≤ j ∧ j < 35 then mem 46 j else mem 47 j)) 44 13 0 = m0
  have F0 : MF mem m0 := ⟨fun k a b => by rw [← hm, wr_ne a, rset_ne b], fun j hj => by rw [← hm, wr_at, upd_ne (by omega), rset_ne (by decide)]⟩
  have e47 : ∀ j, j < 35 → m0 47 j = mem 46 j := fun j hj => by rw [← hm, wr_ne (by decide), rset_at, if_pos ⟨Nat.zero_le _, hj⟩]
  have hR0 : PR (m0 47) D := by
    obtain ⟨⟨h0, h1, h2, h3, h4⟩, hp, hs⟩ := hR
    refine ⟨⟨by rw [e47 0 (by omega)]; exact h0, by rw [e47 1 (by omega)]; exact h1, by rw [e47 2 (by omega)]; exact h2, by rw [e47 3 (by omega)]; exact h3, by rw [e47 4 (by omega)]; exact h4⟩, fun k hk => ?_, fun k hk => ?_⟩
    · rw [e47 _ (by omega), e47 _ (by omega), e47 _ (by omega)]
      exact hp k hk
    · rw [e47 _ (by omega)]
      exact hs k hk
  have h := rd5 (N := N) (T := T) (n := n) hN 13 0 0 0 N D m0 (F0.rt hT) (by omega) (by omega) (by omega) hB hR0 (by rw [← hm, wr_at, upd_at]; rfl)
  have hx : f_X5_reads N mem = f_X5_reads_35 N N m0 (nI 0) 1 := by
    unfold f_X5_reads
    exact (reads_loop hN 35 N 0 mem (by omega) (by omega)).trans (by rw [hm]; rfl)
  rw [hx]
  have h : L5 0 D m0 (f_X5_reads_35 N N m0 (nI 0) 1) (fl T n 14 0 0 (D 0) (D 1)) := h
  cases hf : fl T n 14 0 0 (D 0) (D 1) with
  | inl s =>
    rw [hf] at h
    obtain ⟨m', x, y, G⟩ := h
    exact ⟨-1, m', x, F0.trans G, rfl, y⟩
  | inr cs =>
    rw [hf] at h
    obtain ⟨m', x, y, G⟩ := h
    rw [Nat.zero_add] at x
    exact ⟨nI cs.length, m', x, F0.trans G, rfl, y⟩
theorem told_step {D : Nat → Nat} {mem m1 m2 : zMem} (hD : RD D mem) (G : CG 0 mem m1) (F : MF m1 m2) : RR m2 := by
  obtain ⟨hB, ⟨hC, hR⟩, hW, hU, hK, hS, hH, hT⟩ := hD
  have f : ∀ k, k ≠ 1 → k ≠ 3 → k ≠ 4 → k ≠ 5 → k ≠ 44 → k ≠ 47 → m2 k = mem k := fun k a b c d e g => by rw [F.1 k e g, G.1 k a b c d]
  have f44 : ∀ j, j < 13 → m2 44 j = mem 44 j := fun j hj => by rw [F.2 j (Or.inl hj), G.1 44 (by decide) (by decide) (by decide) (by decide)]
  have f1 : m2 1 4 = mem 1 4 := by rw [F.1 1 (by decide) (by decide)]; exact G.2.1 4 (by omega)
  exact ⟨D, hB, ⟨hC.fr (fun k a b => f k (by omega) (by omega) (by omega) (by omega) (by omega) (by omega)), by rw [f 46 (by omega) (by omega) (by omega) (by omega) (by omega) (by omega)]; exact hR⟩, by rw [f 11 (by omega) (by omega) (by omega) (by omega) (by omega) (by omega), f 12 (by omega) (by omega) (by omega) (by omega) (by omega) (by omega), f 48 (by omega) (by omega) (by omega) (by omega) (by omega) (by omega)]; exact hW, hU.fr (by rw [f 0 (by omega) (by omega) (by omega) (by omega) (by omega) (by omega)]) (by rw [f 0 (by omega) (by omega) (by omega) (by omega) (by omega) (by omega)]) (f44 6 (by omega)) (fun k a b => f k (by omega) (by omega) (by omega) (by omega) (by omega) (by omega)) (f 49 (by omega) (by omega) (by omega) (by omega) (by omega) (by omega)), hK.fr (fun k a b => f k (by omega) (by omega) (by omega) (by omega) (by omega) (by omega)) (f 50 (by omega) (by omega) (by omega) (by omega) (by omega) (by omega)) (f 51 (by omega) (by omega) (by omega) (by omega) (by omega) (by omega)), hS.fr (by rw [f 36 (by omega) (by omega) (by omega) (by omega) (by omega) (by omega)]) (f44 10 (by omega)) (fun k a b => f k (by omega) (by omega) (by omega) (by omega) (by omega) (by omega)) (f 52 (by omega) (by omega) (by omega) (by omega) (by omega) (by omega)), hH.fr (by rw [f 36 (by omega) (by omega) (by omega) (by omega) (by omega) (by omega)]) (f44 12 (by omega)) (fun k a b => f k (by omega) (by omega) (by omega) (by omega) (by omega) (by omega)) (f 53 (by omega) (by omega) (by omega) (by omega) (by omega) (by omega)), hT.fr f1 (f44 1 (by omega)) (f 2 (by omega) (by omega) (by omega) (by omega) (by omega) (by omega)) (f 45 (by omega) (by omega) (by omega) (by omega) (by omega) (by omega))⟩
theorem CG.rtm {mem m1 : zMem} {n : Nat} {T : Nat → Nat} (G : CG 0 mem m1) (hT : RTm mem n T) : RTm m1 n T := hT.fr (by rw [G.1 44 (by decide) (by decide) (by decide) (by decide)]) (G.1 45 (by decide) (by decide) (by decide) (by decide))
theorem nI_m160 {s : Nat} (h : s ≤ 160) : ¬ nI s = (-1 : Int32) := by
  intro z
  have := congrArg Int32.toInt z
  rw [nI_toInt (by omega)] at this
  have h2 : (-1 : Int32).toInt = -1 := by decide
  rw [h2] at this
  omega
theorem c_fault (hN : 300 ≤ N) {mem : zMem} (hR : RR mem) : okc (f_X4_fault N mem) (fun m => f_X5_fault N m) := by
  obtain ⟨D, hD⟩ := id hR
  obtain ⟨n, T, hTc, hTm⟩ := hD.2.2.2.2.2.2.2
  have hb := hD.1.1
  obtain ⟨r, m1, x1, G, h4⟩ := fault4 (np := D 0) (ns := D 1) hN hTc hb.1 hb.2.1
  have e46 : m1 46 = mem 46 := G.1 46 (by decide) (by decide) (by decide) (by decide)
  obtain ⟨r2, m2, x2, F, h5⟩ := reads5 (N := N) hN (G.rtm hTm) hD.1 (by rw [e46]; exact hD.2.1.2)
  have fin := told_step hD G F
  have y1 : f_X4_fault N mem = some (r, m1) := by
    unfold f_X4_fault
    rw [hD.2.1.1.1.1, hD.2.1.1.1.2.1, zb_of x1]
  cases hf : fl T n 14 0 0 (D 0) (D 1) with
  | inl s =>
    rw [hf] at h4 h5
    obtain ⟨h4, -⟩ := h4
    obtain ⟨h5, h6⟩ := h5
    subst h4 h5
    refine ok_rw (nI s) m1 m2 y1 ?_ fin
    unfold f_X5_fault
    rw [zb_of x2, if_pos rfl, h6]
  | inr cs =>
    rw [hf] at h4 h5
    obtain ⟨h4, -, hl, -⟩ := h4
    obtain ⟨h5, -⟩ := h5
    subst h4 h5
    refine ok_rw (-1) m1 m2 y1 ?_ fin
    unfold f_X5_fault
    rw [zb_of x2, if_neg (nI_m160 (by omega))]
theorem addp4 {m : zMem} {D : Nat → Nat} {t a b : Nat} (hC : PC m D) (h1 : 1 ≤ t) (h4 : t ≤ 4) (h8 : D 0 < 8) (h6 : D 1 ≤ 6) : ∃ m' : zMem, f_X1_addPart N m (nI (t - 1)) (nI a) (nI b) = some ((), m') ∧ PC m' (stp D t a b) ∧ ∀ k, (k < 6 ∨ 10 < k) → m' k = m k := by
  obtain ⟨⟨c0, c1, c2, c3, c4⟩, cp, cs⟩ := hC
  generalize hm : wr (wr (wr (wr m 7 (D 0) (nI (t - 1))) 8 (D 0) (nI a)) 9 (D 0) (nI b)) 6 4 (nI (D 0 + 1)) = m'
  have z8 : zin (nI (D 0)) 8 = true := zin_nI h8 (by omega)
  have g4 : m' 6 4 = nI (D 0 + 1) := by rw [← hm, wr_at, upd_at]
  have g6 : ∀ j, j ≠ 4 → m' 6 j = m 6 j := fun j hj => by rw [← hm, wr_at, upd_ne hj, wr_ne (by decide), wr_ne (by decide), wr_ne (by decide)]
  have g7 : m' 7 = upd (m 7) (D 0) (nI (t - 1)) := by rw [← hm, wr_ne (by decide), wr_ne (by decide), wr_ne (by decide), wr_at]
  have g8 : m' 8 = upd (m 8) (D 0) (nI a) := by rw [← hm, wr_ne (by decide), wr_ne (by decide), wr_at, wr_ne (by decide)]
  have g9 : m' 9 = upd (m 9) (D 0) (nI b) := by rw [← hm, wr_ne (by decide), wr_at, wr_ne (by decide), wr_ne (by decide)]
  have g10 : m' 10 = m 10 := by rw [← hm, wr_ne (by decide), wr_ne (by decide), wr_ne (by decide), wr_ne (by decide)]
  refine ⟨m', ?_, ?_, fun k hk => by rw [← hm, wr_ne (by omega), wr_ne (by omega), wr_ne (by omega), wr_ne (by omega)]⟩
  · unfold f_X1_addPart
    have a1 : (wr m 7 (D 0) (nI (t - 1))) 6 4 = nI (D 0) := by rw [wr_ne (by decide), c0]
    have a2 : (wr (wr m 7 (D 0) (nI (t - 1))) 8 (D 0) (nI a)) 6 4 = nI (D 0) := by rw [wr_ne (by decide), a1]
    have a3 : (wr (wr (wr m 7 (D 0) (nI (t - 1))) 8 (D 0) (nI a)) 9 (D 0) (nI b)) 6 4 = nI (D 0) := by rw [wr_ne (by decide), a2]
    rw [c0, if_neg (show ¬ (8 : Int32) ≤ nI (D 0) from nI_ge (b := 8) h8 (by omega)), zgd_t z8, nI_clamp (by omega), zlet_e, a1, zgd_t z8, nI_clamp (by omega), zlet_e, a2, zgd_t z8, nI_clamp (by omega), zlet_e, a3, nI_1, zlet_e, hm]
  · rw [stp_part h1 h4]
    have ld : ∀ j, 1 ≤ j → j ≤ 4 → (if j = 0 then D 0 + 1 else if j = 5 + D 0 then t - 1 else if j = 13 + D 0 then a else if j = 21 + D 0 then b else D j) = D j := fun j j1 j2 => by
      rw [if_neg (by omega), if_neg (by omega), if_neg (by omega), if_neg (by omega)]
    refine ⟨⟨?_, ?_, ?_, ?_, ?_⟩, fun k hk => ?_, fun k hk => ?_⟩
    · rw [g4]; rfl
    · rw [g6 5 (by decide), c1]; exact congrArg nI (ld 1 (by omega) (by omega)).symm
    · rw [g6 6 (by decide), c2]; exact congrArg nI (ld 2 (by omega) (by omega)).symm
    · rw [g6 7 (by decide), c3]; exact congrArg nI (ld 3 (by omega) (by omega)).symm
    · rw [g6 8 (by decide), c4]; exact congrArg nI (ld 4 (by omega) (by omega)).symm
    · have hk : k < D 0 + 1 := hk
      dsimp only
      rw [g7, g8, g9]
      by_cases e : k = D 0
      · subst e
        rw [upd_at, upd_at, upd_at, if_neg (by omega), if_pos rfl, if_neg (by omega), if_neg (by omega), if_pos rfl, if_neg (by omega), if_neg (by omega), if_neg (by omega), if_pos rfl]
        exact ⟨rfl, rfl, rfl⟩
      · obtain ⟨q1, q2, q3⟩ := cp k (by omega)
        rw [upd_ne e, upd_ne e, upd_ne e, if_neg (by omega), if_neg (by omega), if_neg (by omega), if_neg (by omega), if_neg (by omega), if_neg (by omega), if_neg (by omega), if_neg (by omega), if_neg (by omega), if_neg (by omega), if_neg (by omega), if_neg (by omega)]
        exact ⟨q1, q2, q3⟩
    · dsimp only at hk
      rw [ld 1 (by omega) (by omega)] at hk
      dsimp only
      rw [g10, if_neg (by omega), if_neg (by omega), if_neg (by omega), if_neg (by omega)]
      exact cs k hk
theorem adds4 {m : zMem} {D : Nat → Nat} {a b : Nat} (hC : PC m D) (h8 : D 0 ≤ 8) (h6 : D 1 < 6) : ∃ m' : zMem, f_X1_addSoul N m (nI a) = some ((), m') ∧ PC m' (stp D 5 a b) ∧ ∀ k, (k < 6 ∨ 10 < k) → m' k = m k := by
  obtain ⟨⟨c0, c1, c2, c3, c4⟩, cp, cs⟩ := hC
  generalize hm : wr (wr m 10 (D 1) (nI a)) 6 5 (nI (D 1 + 1)) = m'
  have g5 : m' 6 5 = nI (D 1 + 1) := by rw [← hm, wr_at, upd_at]
  have g6 : ∀ j, j ≠ 5 → m' 6 j = m 6 j := fun j hj => by rw [← hm, wr_at, upd_ne hj, wr_ne (by decide)]
  have g10 : m' 10 = upd (m 10) (D 1) (nI a) := by rw [← hm, wr_ne (by decide), wr_at]
  have gk : ∀ k, k ≠ 6 → k ≠ 10 → m' k = m k := fun k a b => by rw [← hm, wr_ne a, wr_ne b]
  refine ⟨m', ?_, ?_, fun k hk => gk k (by omega) (by omega)⟩
  · unfold f_X1_addSoul
    have a1 : (wr m 10 (D 1) (nI a)) 6 5 = nI (D 1) := by rw [wr_ne (by decide), c1]
    rw [c1, if_neg (show ¬ (6 : Int32) ≤ nI (D 1) from nI_ge (b := 6) h6 (by omega)), zgd_t (zin_nI h6 (by omega)), nI_clamp (by omega), zlet_e, a1, nI_1, zlet_e, hm]
  · rw [stp_soul]
    have ld : ∀ j, j ≠ 1 → j < 29 → (if j = 1 then D 1 + 1 else if j = 29 + D 1 then a else D j) = D j := fun j j1 j2 => by
      rw [if_neg j1, if_neg (by omega)]
    refine ⟨⟨?_, ?_, ?_, ?_, ?_⟩, fun k hk => ?_, fun k hk => ?_⟩
    · rw [g6 4 (by decide), c0]; exact congrArg nI (ld 0 (by omega) (by omega)).symm
    · rw [g5]; rfl
    · rw [g6 6 (by decide), c2]; exact congrArg nI (ld 2 (by omega) (by omega)).symm
    · rw [g6 7 (by decide), c3]; exact congrArg nI (ld 3 (by omega) (by omega)).symm
    · rw [g6 8 (by decide), c4]; exact congrArg nI (ld 4 (by omega) (by omega)).symm
    · dsimp only at hk
      rw [ld 0 (by omega) (by omega)] at hk
      dsimp only
      rw [gk 7 (by decide) (by decide), gk 8 (by decide) (by decide), gk 9 (by decide) (by decide), ld _ (by omega) (by omega), ld _ (by omega) (by omega), ld _ (by omega) (by omega)]
      exact cp k hk
    · have hk : k < D 1 + 1 := hk
      dsimp only
      rw [g10, if_neg (show ¬ 29 + k = 1 by omega)]
      by_cases e : k = D 1
      · subst e
        rw [upd_at, if_pos rfl]
      · rw [upd_ne e, if_neg (by omega)]
        exact cs k (by omega)
theorem set4 {m : zMem} {D : Nat → Nat} {t a b : Nat} (hC : PC m D) (h8 : D 0 ≤ 8) (h6 : 6 ≤ t) (ht : t ≤ 8) : PC (wr m 6 t (nI a)) (stp D t a b) ∧ ∀ k, (k < 6 ∨ 10 < k) → wr m 6 t (nI a) k = m k := by
  obtain ⟨⟨c0, c1, c2, c3, c4⟩, cp, cs⟩ := hC
  refine ⟨?_, fun k hk => wr_ne (by omega)⟩
  rw [stp_set h6]
  have al : ∀ j, j ≤ 4 → m 6 (4 + j) = nI (D j) → wr m 6 t (nI a) 6 (4 + j) = nI (if j = t - 4 then a else D j) := fun j hj h => by
    rw [wr_at]
    by_cases e : j = t - 4
    · rw [if_pos e, show 4 + j = t by omega, upd_at]
    · rw [if_neg e, upd_ne (by omega)]
      exact h
  refine ⟨⟨al 0 (by omega) c0, al 1 (by omega) c1, al 2 (by omega) c2, al 3 (by omega) c3, al 4 (by omega) c4⟩, fun k hk => ?_, fun k hk => ?_⟩
  · dsimp only at hk
    rw [if_neg (by omega)] at hk
    dsimp only
    rw [if_neg (by omega), if_neg (by omega), if_neg (by omega), wr_ne (by decide), wr_ne (by decide), wr_ne (by decide)]
    exact cp k hk
  · dsimp only at hk
    rw [if_neg (by omega)] at hk
    dsimp only
    rw [if_neg (by omega), wr_ne (by decide)]
    exact cs k hk
theorem tell4 {m : zMem} {D : Nat → Nat} {t a b : Nat} (hC : PC m D) (hB : PB D) (hV : VC (D 0) (D 1) t a b) : ∃ m' : zMem, f_X1_tell N m (nI t) (nI a) (nI b) = some ((), m') ∧ PC m' (stp D t a b) ∧ ∀ k, (k < 6 ∨ 10 < k) → m' k = m k := by
  obtain ⟨v8, vp, vs, -⟩ := hV
  have hb := hB.1
  have ct : t = 0 ∨ t = 1 ∨ t = 2 ∨ t = 3 ∨ t = 4 ∨ t = 5 ∨ t = 6 ∨ t = 7 ∨ t = 8 := by omega
  unfold f_X1_tell
  rcases ct with rfl | rfl | rfl | rfl | rfl | rfl | rfl | rfl | rfl
  · refine ⟨wr (wr (wr (wr (wr m 6 4 0) 6 5 0) 6 6 0) 6 7 1) 6 8 0, rfl, ⟨⟨?_, ?_, ?_, ?_, ?_⟩, fun k hk => absurd hk (Nat.not_lt_zero k), fun k hk => absurd hk (Nat.not_lt_zero k)⟩, fun k hk => by rw [wr_ne (by omega), wr_ne (by omega), wr_ne (by omega), wr_ne (by omega), wr_ne (by omega)]⟩
    · rw [wr_at, upd_ne (by decide), wr_at, upd_ne (by decide), wr_at, upd_ne (by decide), wr_at, upd_ne (by decide), wr_at, upd_at]; rfl
    · rw [wr_at, upd_ne (by decide), wr_at, upd_ne (by decide), wr_at, upd_ne (by decide), wr_at, upd_at]; rfl
    · rw [wr_at, upd_ne (by decide), wr_at, upd_ne (by decide), wr_at, upd_at]; rfl
    · rw [wr_at, upd_ne (by decide), wr_at, upd_at]; rfl
    · rw [wr_at, upd_at]; rfl
  · obtain ⟨m', x, q⟩ := addp4 (N := N) (t := 1) (a := a) (b := b) hC (by omega) (by omega) (vp (by omega) (by omega)).1 hb.2.1
    exact ⟨m', by rw [if_neg (by decide), if_pos (by decide), zb_of (show f_X1_addPart N m (0 : Int32) (nI a) (nI b) = _ from x)], q⟩
  · obtain ⟨m', x, q⟩ := addp4 (N := N) (t := 2) (a := a) (b := b) hC (by omega) (by omega) (vp (by omega) (by omega)).1 hb.2.1
    exact ⟨m', by rw [if_neg (by decide), if_neg (by decide), if_pos (by decide), zb_of (show f_X1_addPart N m (1 : Int32) (nI a) (nI b) = _ from x)], q⟩
  · obtain ⟨m', x, q⟩ := addp4 (N := N) (t := 3) (a := a) (b := b) hC (by omega) (by omega) (vp (by omega) (by omega)).1 hb.2.1
    exact ⟨m', by rw [if_neg (by decide), if_neg (by decide), if_neg (by decide), if_pos (by decide), zb_of (show f_X1_addPart N m (2 : Int32) (nI a) (nI b) = _ from x)], q⟩
  · obtain ⟨m', x, q⟩ := addp4 (N := N) (t := 4) (a := a) (b := b) hC (by omega) (by omega) (vp (by omega) (by omega)).1 hb.2.1
    exact ⟨m', by rw [if_neg (by decide), if_neg (by decide), if_neg (by decide), if_neg (by decide), if_pos (by decide), zb_of (show f_X1_addPart N m (3 : Int32) (nI a) (nI b) = _ from x)], q⟩
  · obtain ⟨m', x, q⟩ := adds4 (N := N) (a := a) (b := b) hC hb.1 (vs rfl).1
    exact ⟨m', by rw [if_neg (by decide), if_neg (by decide), if_neg (by decide), if_neg (by decide), if_neg (by decide), if_pos (by decide), zb_of x], q⟩
  · exact ⟨wr m 6 6 (nI a), by rw [if_neg (by decide), if_neg (by decide), if_neg (by decide), if_neg (by decide), if_neg (by decide), if_neg (by decide), if_pos (by decide), zlet_e], set4 hC hb.1 (by omega) (by omega)⟩
  · exact ⟨wr m 6 7 (nI a), by rw [if_neg (by decide), if_neg (by decide), if_neg (by decide), if_neg (by decide), if_neg (by decide), if_neg (by decide), if_neg (by decide), if_pos (by decide), zlet_e], set4 hC hb.1 (by omega) (by omega)⟩
  · exact ⟨wr m 6 8 (nI a), by rw [if_neg (by decide), if_neg (by decide), if_neg (by decide), if_neg (by decide), if_neg (by decide), if_neg (by decide), if_neg (by decide), if_neg (by decide), if_pos (by decide), zlet_e], set4 hC hb.1 (by omega) (by omega)⟩
theorem rws_fr {m m' : zMem} (f : ∀ k, k < 6 → m' k = m k) : ∀ (cs : List (Nat × Nat × Nat)) (i : Nat), rws m i cs → rws m' i cs := by
  intro cs
  induction cs with
  | nil => intro i _; exact trivial
  | cons c cs ih =>
    intro i h
    exact ⟨by rw [f 3 (by omega), f 4 (by omega), f 5 (by omega)]; exact h.1, ih (i + 1) h.2⟩
theorem tells4 : ∀ (cs : List (Nat × Nat × Nat)) (i : Nat) (m : zMem) (D : Nat → Nat) (fu : Nat) (L : Nat), PC m D → PB D → VL (D 0) (D 1) cs → rws m i cs → i + cs.length = L → L ≤ 14 → cs.length < fu → ∃ (m' : zMem) (fu' : Nat), f_X4_kirk_38 N fu m (nI L) (nI i) = f_X4_kirk_38 N (fu' + 1) m' (nI L) (nI L) ∧ PC m' (fS D cs) ∧ ∀ k, (k < 6 ∨ 10 < k) → m' k = m k := by
  intro cs
  induction cs with
  | nil =>
    intro i m D fu L hC hB hV hr hL h14 hf
    obtain ⟨fu, rfl⟩ : ∃ n', fu = n' + 1 := ⟨fu - 1, by omega⟩
    have : i = L := hL
    subst this
    exact ⟨m, fu, rfl, hC, fun _ _ => rfl⟩
  | cons c cs ih =>
    intro i m D fu L hC hB hV hr hL h14 hf
    obtain ⟨fu, rfl⟩ : ∃ n', fu = n' + 1 := ⟨fu - 1, by omega⟩
    have hl : (c :: cs).length = cs.length + 1 := rfl
    rw [hl] at hL hf
    obtain ⟨⟨r3, r4, r5⟩, hr2⟩ := hr
    obtain ⟨m1, x, hC1, f1⟩ := tell4 (N := N) hC hB hV.1
    have hB1 := PB_stp hB hV.1
    have hV2 : VL (stp D c.1 c.2.1 c.2.2 0) (stp D c.1 c.2.1 c.2.2 1) cs := by
      rw [stp_0 hV.1.1, stp_1 hV.1.1 (fun a b => (hV.1.2.1 a b).1)]
      exact hV.2
    obtain ⟨m', fu', y, hC', f'⟩ := ih (i + 1) m1 (stp D c.1 c.2.1 c.2.2) fu L hC1 hB1 hV2 (rws_fr (fun k hk => f1 k (by omega)) cs (i + 1) hr2) (by omega) h14 (by omega)
    refine ⟨m', fu', ?_, hC', fun k hk => (f' k hk).trans (f1 k hk)⟩
    rw [f_X4_kirk_38.eq_2, if_neg (nI_ge (by omega) (by omega)), zgd_t (zin_nI (by omega) (by omega)), zgd_t (zin_nI (by omega) (by omega)), zgd_t (zin_nI (by omega) (by omega)), nI_clamp (by omega), r3, r4, r5, zb_of x, nI_1]
    exact y
theorem anew4 (hN : 300 ≤ N) (m : zMem) : ∃ mb : zMem, f_X4_beginAnew N m = some ((), mb) ∧ (∀ k, k ≠ 0 → k ≠ 11 → k ≠ 12 → k ≠ 35 → k ≠ 36 → mb k = m k) ∧ mb 0 = upd (m 0) 7 0 ∧ (mb 11 1 = 0 ∧ mb 11 2 = 0 ∧ mb 11 3 = m 6 8 ∧ mb 11 4 = 0 ∧ mb 11 5 = 0 ∧ mb 11 6 = 0) ∧ (∀ j, j < 6 → mb 12 j = m 10 j) ∧ (mb 35 0 = 0 ∧ mb 35 1 = 0) ∧ mb 36 7 = 0 ∧ mb 36 8 = 0 := by
  generalize hc : cpy6 m 10 12 = mc
  have c12 : ∀ j, j < 6 → mc 12 j = m 10 j := fun j hj => by
    rw [← hc]
    unfold cpy6
    rw [if_pos rfl, pk_cpy_in (by omega) (by omega)]
    simp
  have cne : ∀ k, k ≠ 12 → mc k = m k := fun k hk => by
    rw [← hc]
    unfold cpy6
    rw [if_neg hk]
  generalize hw : wr (wr (wr (wr (wr (wr mc 11 1 0) 11 2 0) 11 3 (m 6 8)) 11 4 0) 11 5 0) 11 6 0 = mw
  have wne : ∀ k, k ≠ 11 → mw k = mc k := fun k hk => by rw [← hw, wr_ne hk, wr_ne hk, wr_ne hk, wr_ne hk, wr_ne hk, wr_ne hk]
  have x1 : f_X3_beginAsTold N 11 m = some ((), mw) := by
    unfold f_X3_beginAsTold
    rw [zlet_e, zlet_e, zlet_e, zlet_e, zlet_e, zlet_e, zlet_e, show cpy6 m 10 (11 + 1) = mc from hc, show (wr (wr mc 11 1 0) 11 2 0) 6 8 = m 6 8 by rw [wr_ne (by decide), wr_ne (by decide), cne 6 (by decide)], hw]
  generalize hv : wr (wr mw 36 7 0) 36 8 0 = mv
  have vne : ∀ k, k ≠ 36 → mv k = mw k := fun k hk => by rw [← hv, wr_ne hk, wr_ne hk]
  have x2 : f_X0_clear N mw = some ((), mv) := by
    unfold f_X0_clear
    rw [zlet_e, zlet_e, hv]
  generalize hz : wr (wr (wr mv 35 0 0) 35 1 0) 0 7 0 = mz
  have zne : ∀ k, k ≠ 0 → k ≠ 35 → mz k = mv k := fun k a b => by rw [← hz, wr_ne a, wr_ne b, wr_ne b]
  refine ⟨mz, ?_, fun k k0 k11 k12 k35 k36 => by rw [zne k k0 k35, vne k k36, wne k k11, cne k k12], ?_, ⟨?_, ?_, ?_, ?_, ?_, ?_⟩, fun j hj => ?_, ⟨?_, ?_⟩, ?_, ?_⟩
  · unfold f_X4_beginAnew
    obtain ⟨N', rfl⟩ : ∃ n', N = n' + 3 := ⟨N - 3, by omega⟩
    rw [zb_of x1, zb_of x2, f_X4_beginAnew_20.eq_2, if_neg (by decide), zgd_t (show zin (0 : Int32) 2 = true from rfl), zlet_e, f_X4_beginAnew_20.eq_2, if_neg (by decide), zgd_t (show zin ((0 : Int32) + 1) 2 = true from rfl), zlet_e, f_X4_beginAnew_20.eq_2, if_pos (by decide), zlet_e]
    exact congrArg (fun z => some ((), z)) hz
  · rw [← hz, wr_at, wr_ne (by decide), wr_ne (by decide), vne 0 (by decide), wne 0 (by decide), cne 0 (by decide)]
  · rw [zne 11 (by decide) (by decide), vne 11 (by decide), ← hw, wr_at, upd_ne (by decide), wr_at, upd_ne (by decide), wr_at, upd_ne (by decide), wr_at, upd_ne (by decide), wr_at, upd_ne (by decide), wr_at, upd_at]
  · rw [zne 11 (by decide) (by decide), vne 11 (by decide), ← hw, wr_at, upd_ne (by decide), wr_at, upd_ne (by decide), wr_at, upd_ne (by decide), wr_at, upd_ne (by decide), wr_at, upd_at]
  · rw [zne 11 (by decide) (by decide), vne 11 (by decide), ← hw, wr_at, upd_ne (by decide), wr_at, upd_ne (by decide), wr_at, upd_ne (by decide), wr_at, upd_at]
  · rw [zne 11 (by decide) (by decide), vne 11 (by decide), ← hw, wr_at, upd_ne (by decide), wr_at, upd_ne (by decide), wr_at, upd_at]
  · rw [zne 11 (by decide) (by decide), vne 11 (by decide), ← hw, wr_at, upd_ne (by decide), wr_at, upd_at]
  · rw [zne 11 (by decide) (by decide), vne 11 (by decide), ← hw, wr_at, upd_at]
  · rw [zne 12 (by decide) (by decide), vne 12 (by decide), wne 12 (by decide)]
    exact c12 j hj
  · rw [← hz, wr_ne (by decide), wr_at, upd_ne (by decide), wr_at, upd_at]
  · rw [← hz, wr_ne (by decide), wr_at, upd_at]
  · rw [zne 36 (by decide) (by decide), ← hv, wr_at, upd_ne (by decide), wr_at, upd_at]
  · rw [zne 36 (by decide) (by decide), ← hv, wr_at, upd_at]
theorem kirk5_loop (hN : 300 ≤ N) (x1 : Int32) : ∀ (d fu i : Nat) (mem : zMem), i + d = 35 → d < fu → f_X5_kirk_15 N fu mem x1 (nI i) = some (x1, wr (laysM (rset mem 46 (fun j => if i ≤ j ∧ j < 35 then mem 47 j else mem 46 j))) 44 1 0) := by
  intro d
  induction d with
  | zero =>
    intro fu i mem hi hf
    obtain ⟨fu, rfl⟩ : ∃ n', fu = n' + 1 := ⟨fu - 1, by omega⟩
    rw [f_X5_kirk_15.eq_2, if_pos (show (35 : Int32) ≤ nI i from nI_le (a := 35) (by omega) (by omega)), rset_self (mem := mem) (c := 46) (fun j => by rw [if_neg (by omega)]), zb_of (lays_spec (by omega) mem), zlet_e]
  | succ d ih =>
    intro fu i mem hi hf
    obtain ⟨fu, rfl⟩ : ∃ n', fu = n' + 1 := ⟨fu - 1, by omega⟩
    rw [f_X5_kirk_15.eq_2, if_neg (show ¬ (35 : Int32) ≤ nI i from nI_ge (b := 35) (by omega) (by omega)), zgd_t (zin_nI (by omega) (by omega)), zgd_t (zin_nI (by omega) (by omega)), nI_clamp (by omega), zlet_e, nI_1, ih fu (i + 1) _ (by omega) (by omega), wr_rset mem 46 i (mem 47 i), rset_rset]
    refine congrArg (fun z => some (x1, wr (laysM z) 44 1 0)) (rset_ext (fun j => ?_))
    rw [rset_at, rset_ne (show 47 ≠ 46 by decide)]
    by_cases h1 : i + 1 ≤ j ∧ j < 35
    · rw [if_pos h1, if_pos (by omega)]
    · rw [if_neg h1]
      by_cases h2 : j = i
      · subst h2
        rw [upd_at, if_pos (by omega)]
      · rw [upd_ne h2, if_neg (by omega)]
theorem c_kirk (hN : 300 ≤ N) {mem : zMem} (hR : RR mem) : okc (f_X4_kirk N mem) (fun m => f_X5_kirk N m) := by
  obtain ⟨D, hD⟩ := id hR
  obtain ⟨n, T, hTc, hTm⟩ := hD.2.2.2.2.2.2.2
  have hb := hD.1.1
  obtain ⟨r, m1, x1, G, h4⟩ := fault4 (np := D 0) (ns := D 1) hN hTc hb.1 hb.2.1
  have e46 : m1 46 = mem 46 := G.1 46 (by decide) (by decide) (by decide) (by decide)
  have c0 : mem 6 4 = nI (D 0) := hD.2.1.1.1.1
  have c1 : mem 6 5 = nI (D 1) := hD.2.1.1.1.2.1
  cases hf : fl T n 14 0 0 (D 0) (D 1) with
  | inl s =>
    obtain ⟨r2, m2, x2, F, h5⟩ := reads5 (N := N) hN (G.rtm hTm) hD.1 (by rw [e46]; exact hD.2.1.2)
    have fin := told_step hD G F
    rw [hf] at h4 h5
    obtain ⟨h4, hs⟩ := h4
    obtain ⟨h5, h6⟩ := h5
    subst h4 h5
    refine ok_rw (-4) m1 m2 ?_ ?_ fin
    · unfold f_X4_kirk
      rw [c0, c1, zb_of x1, if_neg (nI_m160 hs)]
    · unfold f_X5_kirk
      rw [zb_of x2, if_pos rfl]
  | inr cs =>
    rw [hf] at h4
    obtain ⟨h4, g5, hl, gr⟩ := h4
    subst h4
    have hV := (fl_ok (T := T) (n := n) 14 0 0 (D 0) (D 1) (by omega) (by omega) hb.1 hb.2.1).2 cs hf
    have hB' := fS_B cs D hD.1 hV
    have hC1 : PC m1 D := hD.2.1.1.fr (fun k a b => G.1 k (by omega) (by omega) (by omega) (by omega))
    obtain ⟨mt, fu', yt, hCt, ft⟩ := tells4 (N := N) cs 0 m1 D N cs.length hC1 hD.1 hV gr (by omega) hl (by omega)
    generalize hD' : fS D cs = D' at hB' hCt
    generalize hmu : wr mt 1 4 0 = mu
    have fu : ∀ k, k ≠ 1 → mu k = mt k := fun k hk => by rw [← hmu, wr_ne hk]
    obtain ⟨ma, xa, fa, a0, ⟨w1, w2, w3, w4, w5, w6⟩, a12, ⟨k0, k1⟩, n7, n8⟩ := anew4 hN mu
    have y1 : f_X4_kirk N mem = some (nI cs.length, ma) := by
      unfold f_X4_kirk
      rw [c0, c1, zb_of x1, if_pos rfl, g5]
      refine yt.trans ?_
      rw [f_X4_kirk_38.eq_2, if_pos (nI_le (Nat.le_refl _) (by omega)), zlet_e, hmu, zb_of xa]
    have fA : ∀ k, k ≠ 0 → k ≠ 1 → k ≠ 3 → k ≠ 4 → k ≠ 5 → k ≠ 11 → k ≠ 12 → k ≠ 35 → k ≠ 36 → (k < 6 ∨ 10 < k) → ma k = mem k := fun k k0 k1 k3 k4 k5 k11 k12 k35 k36 kr => by
      rw [fa k k0 k11 k12 k35 k36, fu k k1, ft k kr, G.1 k k1 k3 k4 k5]
    have s44 : ma 44 = mem 44 := fA 44 (by decide) (by decide) (by decide) (by decide) (by decide) (by decide) (by decide) (by decide) (by decide) (by decide)
    have s45 : ma 45 = mem 45 := fA 45 (by decide) (by decide) (by decide) (by decide) (by decide) (by decide) (by decide) (by decide) (by decide) (by decide)
    have s46 : ma 46 = mem 46 := fA 46 (by decide) (by decide) (by decide) (by decide) (by decide) (by decide) (by decide) (by decide) (by decide) (by decide)
    obtain ⟨r2, m2, x2, F, h5⟩ := reads5 (N := N) hN (hTm.fr (by rw [s44]) s45) hD.1 (by rw [s46]; exact hD.2.1.2)
    rw [hf] at h5
    obtain ⟨h5, hR2⟩ := h5
    rw [hD'] at hR2
    subst h5
    have hx3 := kirk5_loop hN (nI cs.length) 35 N 0 m2 (by omega) (by omega)
    generalize hm3 : wr (laysM (rset m2 46 (fun j => if 0 ≤ j ∧ j < 35 then m2 47 j else m2 46 j))) 44 1 0 = m3 at hx3
    have l44 : m3 44 = upd (upd (upd (upd (m2 44) 6 0) 10 0) 12 0) 1 0 := by
      rw [← hm3, wr_at]
      unfold laysM
      rw [rset_ne (show 44 ≠ 51 by decide), rset_at, rset_ne (show 44 ≠ 46 by decide)]
    have l51 : m3 51 = upd (upd (m2 51) 0 0) 1 0 := by
      rw [← hm3, wr_ne (by decide)]
      unfold laysM
      rw [rset_at, rset_ne (show 51 ≠ 46 by decide)]
    have l46 : ∀ j, j < 35 → m3 46 j = m2 47 j := fun j hj => by
      rw [← hm3, wr_ne (by decide)]
      unfold laysM
      rw [rset_ne (show 46 ≠ 51 by decide), rset_ne (show 46 ≠ 44 by decide), rset_ne (show 46 ≠ 48 by decide), rset_at, if_pos ⟨Nat.zero_le _, hj⟩]
    have l48 : ∀ j, j < 12 → m3 48 j = if j < 6 then m3 46 (29 + j) else if j = 6 then m3 46 4 else 0 := fun j hj => by
      rw [l46 4 (by omega)]
      by_cases e : j < 6
      · rw [if_pos e, l46 (29 + j) (by omega), ← hm3, wr_ne (by decide)]
        unfold laysM
        rw [rset_ne (show 48 ≠ 51 by decide), rset_ne (show 48 ≠ 44 by decide), rset_at]
        unfold laid
        rw [if_pos e, rset_at, if_pos (by omega)]
      · rw [if_neg e, ← hm3, wr_ne (by decide)]
        unfold laysM
        rw [rset_ne (show 48 ≠ 51 by decide), rset_ne (show 48 ≠ 44 by decide), rset_at]
        unfold laid
        rw [if_neg e, rset_at]
        by_cases e2 : j = 6
        · rw [if_pos e2, if_pos e2, if_pos (by omega)]
        · rw [if_neg e2, if_neg e2, if_pos hj]
    have l : ∀ k, k ≠ 44 → k ≠ 46 → k ≠ 48 → k ≠ 51 → m3 k = m2 k := fun k a b c d => by
      rw [← hm3, wr_ne a]
      unfold laysM
      rw [rset_ne d, rset_ne a, rset_ne c, rset_ne b]
    have m : ∀ k, k ≠ 44 → k ≠ 46 → k ≠ 47 → k ≠ 48 → k ≠ 51 → m3 k = ma k := fun k a b c d e => by rw [l k a b d e, F.1 k a c]
    have hR3 : PR (m3 46) D' := by
      have hb' := hB'.1
      obtain ⟨⟨h0, h1, h2, h3, h4⟩, hp, hs⟩ := hR2
      refine ⟨⟨by rw [l46 0 (by omega)]; exact h0, by rw [l46 1 (by omega)]; exact h1, by rw [l46 2 (by omega)]; exact h2, by rw [l46 3 (by omega)]; exact h3, by rw [l46 4 (by omega)]; exact h4⟩, fun k hk => ?_, fun k hk => ?_⟩
      · rw [l46 _ (by omega), l46 _ (by omega), l46 _ (by omega)]
        exact hp k hk
      · rw [l46 _ (by omega)]
        exact hs k hk
    have hCa : ∀ k, 6 ≤ k → k ≤ 10 → m3 k = mt k := fun k a b => by rw [m k (by omega) (by omega) (by omega) (by omega) (by omega), fa k (by omega) (by omega) (by omega) (by omega) (by omega), fu k (by omega)]
    obtain ⟨u, q, hU⟩ := hD.2.2.2.1
    have fin : RR m3 := by
      have hb' := hB'.1
      refine ⟨D', hB', ⟨hCt.fr hCa, hR3⟩, ⟨0, 0, D' 4, 0, fun k => D' (29 + k), ⟨⟨Nat.two_pow_pos _, by omega, hb'.2.2.2.2, by omega⟩, ⟨?_, ?_, ?_, ?_⟩, ⟨?_, ?_, ?_, ?_⟩, ⟨?_, ?_⟩, fun k hk => ⟨?_, ?_, ?_⟩⟩⟩, ⟨0, q, ⟨by omega, hU.1.2⟩, ⟨?_, ?_, ?_⟩, fun j hj => absurd hj (Nat.not_lt_zero j)⟩, fun k hk => Or.inl ⟨?_, ?_⟩, ⟨0, fun _ => 0, fun _ => 0, by omega, ?_, ?_, fun i hi => absurd hi (Nat.not_lt_zero i)⟩, ⟨0, fun _ => 0, fun _ => 0, fun _ => 0, fun _ => 0, by omega, ?_, ?_, fun i hi => absurd hi (Nat.not_lt_zero i)⟩, ⟨0, fun _ => 0, ⟨by omega, ?_, fun i hi => absurd hi (Nat.not_lt_zero i)⟩, ⟨by omega, ?_, fun i hi => absurd hi (Nat.not_lt_zero i)⟩⟩⟩
      · rw [m 11 (by decide) (by decide) (by decide) (by decide) (by decide), w1]; rfl
      · rw [m 11 (by decide) (by decide) (by decide) (by decide) (by decide), w2]; rfl
      · rw [m 11 (by decide) (by decide) (by decide) (by decide) (by decide), w3, fu 6 (by decide)]; exact hCt.1.2.2.2.2
      · rw [m 11 (by decide) (by decide) (by decide) (by decide) (by decide), w4]; rfl
      · rw [l48 7 (by omega), if_neg (by omega), if_neg (by omega)]; rfl
      · rw [l48 8 (by omega), if_neg (by omega), if_neg (by omega)]; rfl
      · rw [l48 6 (by omega), if_neg (by omega), if_pos rfl]; exact hR3.1.2.2.2.2
      · rw [l48 9 (by omega), if_neg (by omega), if_neg (by omega)]; rfl
      · rw [l48 10 (by omega), if_neg (by omega), if_neg (by omega), m 11 (by decide) (by decide) (by decide) (by decide) (by decide), w5]
      · rw [l48 11 (by omega), if_neg (by omega), if_neg (by omega), m 11 (by decide) (by decide) (by decide) (by decide) (by decide), w6]
      · have := hB'.2.2 k hk
        dsimp only
        omega
      · rw [m 12 (by decide) (by decide) (by decide) (by decide) (by decide), a12 k (by omega), fu 10 (by decide)]; exact hCt.2.2 k hk
      · rw [l48 k (by omega), if_pos (by omega)]; exact hR3.2.2 k hk
      · rw [m 0 (by decide) (by decide) (by decide) (by decide) (by decide), a0, upd_at]; rfl
      · rw [m 0 (by decide) (by decide) (by decide) (by decide) (by decide), a0, upd_ne (by decide), fu 0 (by decide), ft 0 (by omega), G.1 0 (by decide) (by decide) (by decide) (by decide)]; exact hU.2.1.2.1
      · rw [l44, upd_ne (by decide), upd_ne (by decide), upd_ne (by decide), upd_at]; rfl
      · rw [m 35 (by decide) (by decide) (by decide) (by decide) (by decide)]
        have ck : k = 0 ∨ k = 1 := by omega
        rcases ck with rfl | rfl
        · exact k0
        · exact k1
      · rw [l51]
        have ck : k = 0 ∨ k = 1 := by omega
        rcases ck with rfl | rfl
        · rw [upd_ne (by decide), upd_at]
        · rw [upd_at]
      · rw [m 36 (by decide) (by decide) (by decide) (by decide) (by decide), n7]; rfl
      · rw [l44, upd_ne (by decide), upd_ne (by decide), upd_at]; rfl
      · rw [m 36 (by decide) (by decide) (by decide) (by decide) (by decide), n8]; rfl
      · rw [l44, upd_ne (by decide), upd_at]; rfl
      · rw [m 1 (by decide) (by decide) (by decide) (by decide) (by decide), fa 1 (by decide) (by decide) (by decide) (by decide) (by decide), ← hmu, wr_at, upd_at]; rfl
      · rw [l44, upd_at]; rfl
    refine ok_rw (nI cs.length) ma m3 y1 ?_ fin
    unfold f_X5_kirk
    rw [zb_of x2, if_neg (nI_m160 (by omega))]
    exact hx3
theorem RR_0 : RR m01 := by
  have e : ∀ k, k ≠ 6 → k ≠ 46 → k ≠ 47 → ∀ j, m01 k j = 0 := fun k a b c j => by
    unfold m01
    rw [if_neg a, if_neg b, if_neg c]
  refine ⟨fun j => if j = 3 then 1 else 0, ⟨by decide, fun k hk => absurd hk (Nat.not_lt_zero k), fun k hk => absurd hk (Nat.not_lt_zero k)⟩, ⟨⟨⟨rfl, rfl, rfl, rfl, rfl⟩, fun k hk => absurd hk (Nat.not_lt_zero k), fun k hk => absurd hk (Nat.not_lt_zero k)⟩, ⟨⟨rfl, rfl, rfl, rfl, rfl⟩, fun k hk => absurd hk (Nat.not_lt_zero k), fun k hk => absurd hk (Nat.not_lt_zero k)⟩⟩, ⟨0, 0, 0, 0, fun _ => 0, ⟨⟨by decide, by decide, by decide, by decide⟩, ⟨rfl, rfl, rfl, rfl⟩, ⟨rfl, rfl, rfl, rfl⟩, ⟨rfl, rfl⟩, fun k hk => absurd hk (Nat.not_lt_zero k)⟩⟩, ⟨0, 0, ⟨by decide, by decide⟩, ⟨rfl, rfl, rfl⟩, fun j hj => absurd hj (Nat.not_lt_zero j)⟩, fun k hk => Or.inl ⟨e 35 (by decide) (by decide) (by decide) k, e 51 (by decide) (by decide) (by decide) k⟩, ⟨0, fun _ => 0, fun _ => 0, by decide, rfl, rfl, fun i hi => absurd hi (Nat.not_lt_zero i)⟩, ⟨0, fun _ => 0, fun _ => 0, fun _ => 0, fun _ => 0, by decide, rfl, rfl, fun i hi => absurd hi (Nat.not_lt_zero i)⟩, ⟨0, fun _ => 0, ⟨by decide, rfl, fun i hi => absurd hi (Nat.not_lt_zero i)⟩, ⟨by decide, rfl, fun i hi => absurd hi (Nat.not_lt_zero i)⟩⟩⟩
end GO
