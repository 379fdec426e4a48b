/-! Sundays, what is undone, kept and taken back -/
def hv (lv : Nat) (v : Int32) : Int32 := if lv = 0 then v / 2 else 0
theorem hv_nI {lv s : Nat} (h : s ≤ 99) : hv lv (nI s) = nI (if lv = 0 then s / 2 else 0) := by
  unfold hv
  by_cases c : lv = 0
  · rw [if_pos c, if_pos c, show (2 : Int32) = nI 2 from rfl, pk_div (by omega) (by omega) (by omega)]
  · rw [if_neg c, if_neg c]
    rfl
theorem end4 {N : Nat} {lv : Nat} (hl : lv = 0 ∨ lv = 1) : ∀ (d fu i : Nat) (mem : zMem), i + d = 6 → d < fu → ∃ m1 : zMem, f_X3_end_2 N 11 fu mem (nI lv) (nI i) = some ((), m1) ∧ (∀ k, k ≠ 11 → k ≠ 12 → m1 k = mem k) ∧ (m1 11 1 = 0 ∧ m1 11 2 = 0 ∧ m1 11 3 = mem 11 3 ∧ m1 11 4 = mem 11 4 + 1 ∧ m1 11 5 = mem 11 5 ∧ m1 11 6 = mem 11 6 + nI lv) ∧ (∀ k, i ≤ k → k < 6 → m1 12 k = hv lv (mem 12 k)) ∧ ∀ k, k < i → m1 12 k = mem 12 k := by
  intro d
  induction d with
  | zero =>
    intro fu i mem hi hf
    obtain ⟨fu, rfl⟩ : ∃ n', fu = n' + 1 := ⟨fu - 1, by omega⟩
    have key : ∀ v : Int32, v = nI lv → ∃ m1 : zMem, some ((), wr (wr (wr (wr mem 11 1 0) 11 2 0) 11 4 ((wr (wr mem 11 1 0) 11 2 0) 11 4 + 1)) 11 6 ((wr (wr (wr mem 11 1 0) 11 2 0) 11 4 ((wr (wr mem 11 1 0) 11 2 0) 11 4 + 1)) 11 6 + v)) = some ((), m1) ∧ (∀ k, k ≠ 11 → k ≠ 12 → m1 k = mem k) ∧ (m1 11 1 = 0 ∧ m1 11 2 = 0 ∧ m1 11 3 = mem 11 3 ∧ m1 11 4 = mem 11 4 + 1 ∧ m1 11 5 = mem 11 5 ∧ m1 11 6 = mem 11 6 + nI lv) ∧ (∀ k, i ≤ k → k < 6 → m1 12 k = hv lv (mem 12 k)) ∧ ∀ k, k < i → m1 12 k = mem 12 k := by
      intro v hv'
      subst hv'
      refine ⟨_, rfl, fun k k1 k2 => by rw [wr_ne k1, wr_ne k1, wr_ne k1, wr_ne k1], ⟨?_, ?_, ?_, ?_, ?_, ?_⟩, fun k h1 h2 => by omega, fun k h1 => by rw [wr_ne (by decide), wr_ne (by decide), wr_ne (by decide), wr_ne (by decide)]⟩
      · rw [wr_at, upd_ne (by decide), wr_at, upd_ne (by decide), wr_at, upd_ne (by decide), wr_at, upd_at]
      · rw [wr_at, upd_ne (by decide), wr_at, upd_ne (by decide), wr_at, upd_at]
      · rw [wr_at, upd_ne (by decide), wr_at, upd_ne (by decide), wr_at, upd_ne (by decide), wr_at, upd_ne (by decide)]
      · rw [wr_at, upd_ne (by decide), wr_at, upd_at, wr_at, upd_ne (by decide), wr_at, upd_ne (by decide)]
      · rw [wr_at, upd_ne (by decide), wr_at, upd_ne (by decide), wr_at, upd_ne (by decide), wr_at, upd_ne (by decide)]
      · rw [wr_at, upd_at, wr_at, upd_ne (by decide), wr_at, upd_ne (by decide), wr_at, upd_ne (by decide)]
    rw [f_X3_end_2.eq_2, if_pos (show (6 : Int32) ≤ nI i from nI_le (a := 6) (by omega) (by omega)), zlet_e, zlet_e, zlet_e]
    rcases hl with rfl | rfl
    · rw [if_pos (show nI 0 = 0 from rfl), zlet_e]
      exact key 0 rfl
    · rw [if_neg (show ¬ nI 1 = 0 by decide), zlet_e]
      exact key 1 rfl
  | succ d ih =>
    intro fu i mem hi hf
    obtain ⟨fu, rfl⟩ : ∃ n', fu = n' + 1 := ⟨fu - 1, by omega⟩
    have z6 : zin (nI i) 6 = true := zin_nI (by omega) (by omega)
    have key : ∀ v : Int32, v = hv lv (mem 12 i) → ∃ m1 : zMem, f_X3_end_2 N 11 fu (wr mem 12 i v) (nI lv) (nI (i + 1)) = some ((), m1) ∧ (∀ k, k ≠ 11 → k ≠ 12 → m1 k = mem k) ∧ (m1 11 1 = 0 ∧ m1 11 2 = 0 ∧ m1 11 3 = mem 11 3 ∧ m1 11 4 = mem 11 4 + 1 ∧ m1 11 5 = mem 11 5 ∧ m1 11 6 = mem 11 6 + nI lv) ∧ (∀ k, i ≤ k → k < 6 → m1 12 k = hv lv (mem 12 k)) ∧ ∀ k, k < i → m1 12 k = mem 12 k := by
      intro v hv'
      obtain ⟨m1, x, f, g, h1, h2⟩ := ih fu (i + 1) (wr mem 12 i v) (by omega) (by omega)
      have e11 : wr mem 12 i v 11 = mem 11 := wr_ne (by decide)
      rw [e11] at g
      refine ⟨m1, x, fun k k1 k2 => by rw [f k k1 k2, wr_ne k2], g, fun k k1 k2 => ?_, fun k k1 => by rw [h2 k (by omega), wr_at, upd_ne (by omega)]⟩
      by_cases e : k = i
      · subst e
        rw [h2 k (by omega), wr_at, upd_at, hv']
      · rw [h1 k (by omega) k2, wr_at, upd_ne e]
    rw [f_X3_end_2.eq_2, if_neg (show ¬ (6 : Int32) ≤ nI i from nI_ge (b := 6) (by omega) (by omega)), nI_1, nI_clamp (by omega)]
    rcases hl with rfl | rfl
    · rw [if_pos (show nI 0 = 0 from rfl), zgd_t z6, zgd_t z6, zlet_e]
      exact key _ rfl
    · rw [if_neg (show ¬ nI 1 = 0 by decide), zgd_t z6, zlet_e]
      exact key _ rfl
theorem end5 {N : Nat} {lv : Nat} (hl : lv = 0 ∨ lv = 1) : ∀ (d fu i : Nat) (mem : zMem), i + d = 6 → d < fu → ∃ m1 : zMem, f_X5_sunday_27 N fu mem (nI lv) (nI i) = some (nI lv, m1) ∧ (∀ k, k ≠ 48 → m1 k = mem k) ∧ (m1 48 7 = 0 ∧ m1 48 8 = 0 ∧ m1 48 6 = mem 48 6 ∧ m1 48 9 = mem 48 9 + 1 ∧ m1 48 10 = mem 48 10 ∧ m1 48 11 = mem 48 11 + nI lv) ∧ (∀ k, i ≤ k → k < 6 → m1 48 k = hv lv (mem 48 k)) ∧ ∀ k, k < i → m1 48 k = mem 48 k := by
  intro d
  induction d with
  | zero =>
    intro fu i mem hi hf
    obtain ⟨fu, rfl⟩ : ∃ n', fu = n' + 1 := ⟨fu - 1, by omega⟩
    have key : ∀ v : Int32, v = nI lv → ∃ m1 : zMem, f_X5_sunday_105 N (wr (wr (wr mem 48 8 0) 48 7 0) 48 9 ((wr (wr mem 48 8 0) 48 7 0) 48 9 + 1)) (nI lv) (11 : Int32) ((wr (wr (wr mem 48 8 0) 48 7 0) 48 9 ((wr (wr mem 48 8 0) 48 7 0) 48 9 + 1)) 48 11) v = some (nI lv, m1) ∧ (∀ k, k ≠ 48 → m1 k = mem k) ∧ (m1 48 7 = 0 ∧ m1 48 8 = 0 ∧ m1 48 6 = mem 48 6 ∧ m1 48 9 = mem 48 9 + 1 ∧ m1 48 10 = mem 48 10 ∧ m1 48 11 = mem 48 11 + nI lv) ∧ (∀ k, i ≤ k → k < 6 → m1 48 k = hv lv (mem 48 k)) ∧ ∀ k, k < i → m1 48 k = mem 48 k := by
      intro v hv'
      subst hv'
      refine ⟨wr (wr (wr (wr mem 48 8 0) 48 7 0) 48 9 ((wr (wr mem 48 8 0) 48 7 0) 48 9 + 1)) 48 11 ((wr (wr (wr mem 48 8 0) 48 7 0) 48 9 ((wr (wr mem 48 8 0) 48 7 0) 48 9 + 1)) 48 11 + nI lv), ?_, fun k k1 => by rw [wr_ne k1, wr_ne k1, wr_ne k1, wr_ne k1], ⟨?_, ?_, ?_, ?_, ?_, ?_⟩, fun k h1 h2 => by omega, fun k h1 => ?_⟩
      · unfold f_X5_sunday_105
        rw [zgd_t (show zin (11 : Int32) 12 = true from rfl), zlet_e]
        rcases hl with rfl | rfl <;> rfl
      · rw [wr_at, upd_ne (by decide), wr_at, upd_ne (by decide), wr_at, upd_at]
      · rw [wr_at, upd_ne (by decide), wr_at, upd_ne (by decide), wr_at, upd_ne (by decide), wr_at, upd_at]
      · rw [wr_at, upd_ne (by decide), wr_at, upd_ne (by decide), wr_at, upd_ne (by decide), wr_at, upd_ne (by decide)]
      · rw [wr_at, upd_ne (by decide), wr_at, upd_at, wr_at, upd_ne (by decide), wr_at, upd_ne (by decide)]
      · rw [wr_at, upd_ne (by decide), wr_at, upd_ne (by decide), wr_at, upd_ne (by decide), wr_at, upd_ne (by decide)]
      · rw [wr_at, upd_at, wr_at, upd_ne (by decide), wr_at, upd_ne (by decide), wr_at, upd_ne (by decide)]
      · rw [wr_at, upd_ne (by omega), wr_at, upd_ne (by omega), wr_at, upd_ne (by omega), wr_at, upd_ne (by omega)]
    rw [f_X5_sunday_27.eq_2, if_pos (show (6 : Int32) ≤ nI i from nI_le (a := 6) (by omega) (by omega)), zlet_e, zlet_e, zlet_e]
    rcases hl with rfl | rfl
    · rw [if_pos (show nI 0 = 0 from rfl)]
      exact key 0 rfl
    · rw [if_neg (show ¬ nI 1 = 0 by decide)]
      exact key 1 rfl
  | succ d ih =>
    intro fu i mem hi hf
    obtain ⟨fu, rfl⟩ : ∃ n', fu = n' + 1 := ⟨fu - 1, by omega⟩
    have z12 : zin (nI i) 12 = true := zin_nI (by omega) (by omega)
    have key : ∀ v : Int32, v = hv lv (mem 48 i) → ∃ m1 : zMem, f_X5_sunday_27 N fu (wr mem 48 i v) (nI lv) (nI (i + 1)) = some (nI lv, m1) ∧ (∀ k, k ≠ 48 → m1 k = mem k) ∧ (m1 48 7 = 0 ∧ m1 48 8 = 0 ∧ m1 48 6 = mem 48 6 ∧ m1 48 9 = mem 48 9 + 1 ∧ m1 48 10 = mem 48 10 ∧ m1 48 11 = mem 48 11 + nI lv) ∧ (∀ k, i ≤ k → k < 6 → m1 48 k = hv lv (mem 48 k)) ∧ ∀ k, k < i → m1 48 k = mem 48 k := by
      intro v hv'
      obtain ⟨m1, x, f, g, h1, h2⟩ := ih fu (i + 1) (wr mem 48 i v) (by omega) (by omega)
      have e : ∀ j, 6 ≤ j → wr mem 48 i v 48 j = mem 48 j := fun j hj => by rw [wr_at, upd_ne (by omega)]
      rw [e 6 (by omega), e 9 (by omega), e 10 (by omega), e 11 (by omega)] at g
      refine ⟨m1, x, fun k k1 => by rw [f k k1, wr_ne k1], g, fun k k1 k2 => ?_, fun k k1 => by rw [h2 k (by omega), wr_at, upd_ne (by omega)]⟩
      by_cases e : k = i
      · subst e
        rw [h2 k (by omega), wr_at, upd_at, hv']
      · rw [h1 k (by omega) k2, wr_at, upd_ne e]
    rw [f_X5_sunday_27.eq_2, if_neg (show ¬ (6 : Int32) ≤ nI i from nI_ge (b := 6) (by omega) (by omega)), nI_1, nI_clamp (by omega)]
    rcases hl with rfl | rfl
    · rw [if_pos (show nI 0 = 0 from rfl), zgd_t z12, zgd_t z12, zlet_e]
      exact key _ rfl
    · rw [if_neg (show ¬ nI 1 = 0 by decide), zgd_t z12, zlet_e]
      exact key _ rfl
theorem undo5 {N : Nat} {v : Nat} (hv7 : v ≤ 7) : ∀ (d fu i : Nat) (mem : zMem), mem 44 6 = nI v → i + d = 12 → d < fu → ∃ m1 : zMem, f_X5_undo_22 N fu mem (nI i) = some (nI v, m1) ∧ (∀ k, k ≠ 48 → m1 k = mem k) ∧ (∀ k, i ≤ k → k < 12 → m1 48 k = mem 49 (12 * v + k)) ∧ ∀ k, k < i → m1 48 k = mem 48 k := by
  intro d
  induction d with
  | zero =>
    intro fu i mem h6 hi hf
    obtain ⟨fu, rfl⟩ : ∃ n', fu = n' + 1 := ⟨fu - 1, by omega⟩
    refine ⟨mem, ?_, fun _ _ => rfl, fun k h1 h2 => by omega, fun _ _ => rfl⟩
    rw [f_X5_undo_22.eq_2, if_pos (show (12 : Int32) ≤ nI i from nI_le (a := 12) (by omega) (by omega)), h6]
  | succ d ih =>
    intro fu i mem h6 hi hf
    obtain ⟨fu, rfl⟩ : ∃ n', fu = n' + 1 := ⟨fu - 1, by omega⟩
    obtain ⟨m1, x, f, h1, h2⟩ := ih fu (i + 1) (wr mem 48 i (mem 49 (12 * v + i))) (by rw [wr_ne (by decide)]; exact h6) (by omega) (by omega)
    refine ⟨m1, ?_, fun k k1 => by rw [f k k1, wr_ne k1], fun k k1 k2 => ?_, fun k k1 => by rw [h2 k (by omega), wr_at, upd_ne (by omega)]⟩
    · rw [f_X5_undo_22.eq_2, if_neg (show ¬ (12 : Int32) ≤ nI i from nI_ge (b := 12) (by omega) (by omega)), h6, show (12 : Int32) * nI v = nI (12 * v) from pk_mul 12 v, nI_add, zgd_t (zin_nI (by omega) (by omega)), zgd_t (zin_nI (by omega) (by omega)), nI_clamp (by omega), nI_clamp (by omega), zlet_e, nI_1]
      exact x
    · by_cases e : k = i
      · subst e
        rw [h2 k (by omega), wr_at, upd_at]
      · rw [h1 k (by omega) k2, wr_ne (by decide)]
theorem keep5 {N : Nat} {c : Nat} (hc : c < 2) : ∀ (d fu i : Nat) (mem : zMem), i + d = 12 → d < fu → ∃ m1 : zMem, f_X5_keep_14 N fu mem (nI c) (nI i) = some (mem 48 9, m1) ∧ (∀ k, k ≠ 50 → k ≠ 51 → m1 k = mem k) ∧ m1 51 = upd (mem 51) c 1 ∧ (∀ k, i ≤ k → k < 12 → m1 50 (12 * c + k) = mem 48 k) ∧ ∀ k, k < 12 * c + i ∨ 12 * c + 12 ≤ k → m1 50 k = mem 50 k := by
  intro d
  induction d with
  | zero =>
    intro fu i mem hi hf
    obtain ⟨fu, rfl⟩ : ∃ n', fu = n' + 1 := ⟨fu - 1, by omega⟩
    refine ⟨wr mem 51 c 1, ?_, fun k _ k2 => wr_ne k2, wr_at, fun k h1 h2 => by omega, fun k _ => by rw [wr_ne (by decide)]⟩
    rw [f_X5_keep_14.eq_2, if_pos (show (12 : Int32) ≤ nI i from nI_le (a := 12) (by omega) (by omega)), zgd_t (zin_nI (by omega) (by omega)), zlet_e, nI_clamp (by omega), show vp_nar .boolean (1 : Int32) = 1 from rfl, wr_ne (show 48 ≠ 51 by decide)]
    rfl
  | succ d ih =>
    intro fu i mem hi hf
    obtain ⟨fu, rfl⟩ : ∃ n', fu = n' + 1 := ⟨fu - 1, by omega⟩
    obtain ⟨m1, x, f, g, h1, h2⟩ := ih fu (i + 1) (wr mem 50 (12 * c + i) (mem 48 i)) (by omega) (by omega)
    rw [wr_ne (show 48 ≠ 50 by decide)] at x h1
    refine ⟨m1, ?_, fun k k1 k2 => by rw [f k k1 k2, wr_ne k1], by rw [g, wr_ne (by decide)], fun k k1 k2 => ?_, fun k k1 => by rw [h2 k (by omega), wr_at, upd_ne (by omega)]⟩
    · rw [f_X5_keep_14.eq_2, if_neg (show ¬ (12 : Int32) ≤ nI i from nI_ge (b := 12) (by omega) (by omega)), zgd_t (zin_nI (by omega) (by omega)), show (12 : Int32) * nI c = nI (12 * c) from pk_mul 12 c, nI_add, zgd_t (zin_nI (by omega) (by omega)), nI_clamp (by omega), nI_clamp (by omega), zlet_e, nI_1]
      exact x
    · by_cases e : k = i
      · subst e
        rw [h2 (12 * c + k) (by omega), wr_at, upd_at]
      · exact h1 k (by omega) k2
theorem back5 {N : Nat} {c : Nat} (hc : c < 2) : ∀ (d fu i : Nat) (mem : zMem), i + d = 12 → d < fu → ∃ m1 : zMem, f_X5_back_26 N fu mem (nI c) (nI i) = some (m1 48 9, m1) ∧ (∀ k, k ≠ 48 → k ≠ 44 → m1 k = mem k) ∧ m1 44 = upd (mem 44) 6 0 ∧ (∀ k, i ≤ k → k < 12 → m1 48 k = mem 50 (12 * c + k)) ∧ ∀ k, k < i → m1 48 k = mem 48 k := by
  intro d
  induction d with
  | zero =>
    intro fu i mem hi hf
    obtain ⟨fu, rfl⟩ : ∃ n', fu = n' + 1 := ⟨fu - 1, by omega⟩
    refine ⟨wr mem 44 6 0, ?_, fun k _ k2 => wr_ne k2, wr_at, fun k h1 h2 => by omega, fun k _ => by rw [wr_ne (by decide)]⟩
    rw [f_X5_back_26.eq_2, if_pos (show (12 : Int32) ≤ nI i from nI_le (a := 12) (by omega) (by omega)), zlet_e]
    rfl
  | succ d ih =>
    intro fu i mem hi hf
    obtain ⟨fu, rfl⟩ : ∃ n', fu = n' + 1 := ⟨fu - 1, by omega⟩
    obtain ⟨m1, x, f, g, h1, h2⟩ := ih fu (i + 1) (wr mem 48 i (mem 50 (12 * c + i))) (by omega) (by omega)
    refine ⟨m1, ?_, fun k k1 k2 => by rw [f k k1 k2, wr_ne k1], by rw [g, wr_ne (by decide)], fun k k1 k2 => ?_, fun k k1 => by rw [h2 k (by omega), wr_at, upd_ne (by omega)]⟩
    · rw [f_X5_back_26.eq_2, if_neg (show ¬ (12 : Int32) ≤ nI i from nI_ge (b := 12) (by omega) (by omega)), show (12 : Int32) * nI c = nI (12 * c) from pk_mul 12 c, nI_add, zgd_t (zin_nI (by omega) (by omega)), zgd_t (zin_nI (by omega) (by omega)), nI_clamp (by omega), nI_clamp (by omega), zlet_e, nI_1]
      exact x
    · by_cases e : k = i
      · subst e
        rw [h2 k (by omega), wr_at, upd_at]
      · rw [h1 k (by omega) k2, wr_ne (by decide)]
section GM
variable {N : Nat} {mem : zMem}
theorem c_sunday (hN : 300 ≤ N) (hR : RR mem) : okc (f_X4_sunday N mem) (fun m => f_X5_sunday N m) := by
  obtain ⟨D, hD⟩ := id hR
  have hP := hD.rp
  obtain ⟨pr, pa, we, no, sg, hW⟩ := hD.2.2.1
  have hpr := pr_256 hP hW.1.1
  have b4 : no ≤ 999 := hW.1.2.2.2
  have w4 : mem 11 4 = nI no := hW.2.1.2.2.2
  have h9 : mem 48 9 = nI no := hW.2.2.1.2.2.2
  by_cases c : no < 999
  · have v4 := level4 (N := N) (mem := mem) hP hW hN
    have lv01 : lvN (fun k => D (5 + k)) (fun k => D (13 + k)) sg (D 0) (D 1) we (D 2) (D 3) pr pa = 0 ∨ lvN (fun k => D (5 + k)) (fun k => D (13 + k)) sg (D 0) (D 1) we (D 2) (D 3) pr pa = 1 := hg_01 (D 3) (smN (fun k => D (5 + k)) (fun k => D (13 + k)) (D 0) we (D 2) pr) (ldN sg (D 1) pa)
    obtain ⟨mA, xA, fA, gA⟩ := done_step hN hD
    have a11 : mA 11 = mem 11 := fA 11 (by decide) (by decide)
    have a12 : mA 12 = mem 12 := fA 12 (by decide) (by decide)
    have a48 : mA 48 = mem 48 := fA 48 (by decide) (by decide)
    have a46 : mA 46 = mem 46 := fA 46 (by decide) (by decide)
    generalize hlv : lvN (fun k => D (5 + k)) (fun k => D (13 + k)) sg (D 0) (D 1) we (D 2) (D 3) pr pa = lv at v4 lv01
    obtain ⟨m1, x1, f1, ⟨u1, u2, u3, u4, u5, u6⟩, s1, -⟩ := end4 (N := N) lv01 6 N 0 mA (by omega) (by omega)
    obtain ⟨mB, xB, fB, gB⟩ := gA m1 f1
    have b48 : mB 48 = mem 48 := by rw [fB 48 (by decide) (by decide), f1 48 (by decide) (by decide), a48]
    have b46 : mB 46 = mem 46 := by rw [fB 46 (by decide) (by decide), f1 46 (by decide) (by decide), a46]
    obtain ⟨m2, x2, f2, ⟨v1, v2, v3, v4', v5, v6⟩, s2, -⟩ := end5 (N := N) lv01 6 N 0 mB (by omega) (by omega)
    have hPB : RP mB (D 0) (D 1) (D 2) (D 3) (D 4) (fun k => D (5 + k)) (fun k => D (13 + k)) (fun k => D (21 + k)) (fun k => D (29 + k)) := RP_of hD.1 (hD.2.1.1.fr (fun k a b => by rw [fB k (by omega) (by omega), f1 k (by omega) (by omega), fA k (by omega) (by omega)])) (by rw [b46]; exact hD.2.1.2)
    have v5x := level5x (N := N) (we := we) (pr := pr) (pa := pa) (sg := sg) hPB (by rw [b48]; exact hW.2.2.1.2.2.1) (by rw [b48]; exact hW.2.2.1.1) hpr hW.1.2.2.1 hW.1.2.1 (fun k hk => (hW.2.2.2.2 k hk).1) (by rw [b48]; exact hW.2.2.1.2.1) (fun k hk => by rw [b48]; exact (hW.2.2.2.2 k hk).2.2) hN
    rw [hlv] at v5x
    have h6 := hP.1.2.1
    have fin : RR m2 := by
      refine gB m2 f2 ⟨0, 0, we, no + 1, (fun k => if lv = 0 then sg k / 2 else 0), ?_⟩
      rw [f2 11 (by decide), f2 12 (by decide), fB 11 (by decide) (by decide), fB 12 (by decide) (by decide)]
      refine ⟨⟨Nat.two_pow_pos _, by omega, hW.1.2.2.1, by omega⟩, ⟨u1, u2, by rw [u3, a11]; exact hW.2.1.2.2.1, by rw [u4, a11, w4, nI_1]⟩, ⟨v1, v2, by rw [v3, b48]; exact hW.2.2.1.2.2.1, by rw [v4', b48, h9, nI_1]⟩, ⟨by rw [u5, v5, a11, b48]; exact hW.2.2.2.1.1, by rw [u6, v6, a11, b48, hW.2.2.2.1.2]⟩, fun k hk => ?_⟩
      obtain ⟨t1, t2, t3⟩ := hW.2.2.2.2 k hk
      refine ⟨?_, ?_, ?_⟩
      · dsimp only
        split <;> omega
      · rw [s1 k (by omega) (by omega), a12, t2, hv_nI t1]
      · rw [s2 k (by omega) (by omega), b48, t3, hv_nI t1]
    refine ok_rw (nI lv) m1 m2 ?_ ?_ fin
    · unfold f_X4_sunday
      rw [w4, if_pos (show nI no < (999 : Int32) from nI_lt (b := 999) c (by omega)), zb_of v4, zb_of xA, zb_of (show f_X3_end N 11 mA (nI lv) = some ((), m1) from x1)]
      rcases lv01 with rfl | rfl <;> rfl
    · unfold f_X5_sunday
      rw [show m1 48 (9 : Int32).toNatClampNeg = nI no by rw [f1 48 (by decide) (by decide), a48]; exact h9, if_neg (show ¬ nI no = (999 : Int32) from fun z => by have := (nI_eq (by omega) (by omega)).mp (show nI no = nI 999 from z); omega), zb_of xB, zb_of v5x]
      exact x2
  · obtain rfl : no = 999 := by omega
    refine ok_ro hR (-5) ?_ ?_
    · unfold f_X4_sunday
      rw [w4, if_neg (by decide)]
    · unfold f_X5_sunday
      rw [show mem 48 (9 : Int32).toNatClampNeg = nI 999 from h9, if_pos (by decide)]
theorem c_undo (hN : 300 ≤ N) (hR : RR mem) : okc (f_X4_undo N mem) (fun m => f_X5_undo N m) := by
  obtain ⟨D, hD⟩ := id hR
  have hns := hD.1.1.2.1
  obtain ⟨u, q, hU⟩ := hD.2.2.2.1
  have hu : u ≤ 8 ∧ q < 8 := hU.1
  have e7 : mem 0 7 = nI u := hU.2.1.1
  have e8 : mem 0 8 = nI q := hU.2.1.2.1
  have e6 : mem 44 6 = nI u := hU.2.1.2.2
  by_cases c : u = 0
  · refine ok_ro hR (-4) ?_ ?_
    · unfold f_X4_undo
      rw [e7, c, if_neg (by decide)]
    · unfold f_X5_undo
      rw [e6, c, if_pos (by decide)]
  · generalize hq' : (q + 7) % 8 = q'
    have hq8 : q' < 8 := by omega
    generalize hmA : wr (wr mem 0 7 (nI (u - 1))) 0 8 (nI q') = mA
    have A0 : ∀ k, k ≠ 0 → mA k = mem k := fun k hk => by rw [← hmA, wr_ne hk, wr_ne hk]
    have A7 : mA 0 7 = nI (u - 1) := by rw [← hmA, wr_at, upd_ne (by decide), wr_at, upd_at]
    have A8 : mA 0 8 = nI q' := by rw [← hmA, wr_at, upd_at]
    generalize hm1 : bl mA 11 (14 + 2 * q') = m1
    have f1 : ∀ k, k ≠ 11 → k ≠ 12 → m1 k = mA k := fun k k1 k2 => by rw [← hm1]; exact bl_ne k1 k2
    obtain ⟨m2, x2, f2, s2, -⟩ := undo5 (N := N) (v := u - 1) (by omega) 12 N 0 (wr m1 44 6 (nI (u - 1))) (by rw [wr_at, upd_at]) (by omega) (by omega)
    have g : ∀ k, k ≠ 48 → k ≠ 44 → k ≠ 11 → k ≠ 12 → k ≠ 0 → m2 k = mem k := fun k k1 k2 k3 k4 k5 => by rw [f2 k k1, wr_ne k2, f1 k k3 k4, A0 k k5]
    have m44 : m1 44 = mem 44 := by rw [f1 44 (by decide) (by decide), A0 44 (by decide)]
    have m49 : m1 49 = mem 49 := by rw [f1 49 (by decide) (by decide), A0 49 (by decide)]
    have hidx : (q + 8 - u + (u - 1)) % 8 = q' := by omega
    have hold := hU.2.2 (u - 1) (by omega)
    rw [hidx] at hold
    have hWn : RWe (D 0) (D 1) (m2 11) (m2 12) (m2 48) := by
      refine hold.congr hns (fun j hj => ?_) (fun j hj => ?_) (fun i hi => ?_)
      · rw [f2 11 (by decide), wr_ne (by decide), ← hm1, bl_f hj, A0 _ (by omega)]
      · rw [f2 12 (by decide), wr_ne (by decide), ← hm1, show (12 : Nat) = 11 + 1 from rfl, bl_g hj, A0 _ (by omega), show 14 + 2 * q' + 1 = 15 + 2 * q' by omega]
      · rw [s2 i (by omega) hi, wr_ne (by decide), m49]
    have hUn : RUe m2 (D 0) (D 1) := by
      refine ⟨u - 1, q', ⟨by omega, hq8⟩, ⟨?_, ?_, ?_⟩, fun j hj => ?_⟩
      · rw [f2 0 (by decide), wr_ne (by decide), f1 0 (by decide) (by decide)]; exact A7
      · rw [f2 0 (by decide), wr_ne (by decide), f1 0 (by decide) (by decide)]; exact A8
      · rw [f2 44 (by decide), wr_at, upd_at]
      · have hj' := hU.2.2 j (by omega)
        have hi2 : (q' + 8 - (u - 1) + j) % 8 = (q + 8 - u + j) % 8 := by omega
        rw [hi2, g _ (by omega) (by omega) (by omega) (by omega) (by omega), g _ (by omega) (by omega) (by omega) (by omega) (by omega), g 49 (by omega) (by omega) (by omega) (by omega) (by omega)]
        exact hj'
    have fin : RR m2 := week_step hD (fun k k0 k11 k12 k44 k48 _ _ => g k k48 k44 k11 k12 k0) (fun j hj => by rw [f2 44 (by decide), wr_at, upd_ne hj, m44]) hWn hUn
    refine ok_rw (nI (u - 1)) m1 m2 ?_ ?_ fin
    · unfold f_X4_undo
      have w8 : (wr mem 0 7 (nI (u - 1))) 0 8 = nI q := by rw [wr_at, upd_ne (by decide), e8]
      rw [e7, if_pos (show (0 : Int32) < nI u from nI_lt (a := 0) (by omega) (by omega)), show nI u - (1 : Int32) = nI (u - 1) from pk_sub (b := 1) (by omega), zlet_e, w8, show nI q + (8 : Int32) = nI (q + 8) from nI_add q 8, show nI (q + 8) - (1 : Int32) = nI (q + 8 - 1) from pk_sub (b := 1) (by omega), show (8 : Int32) = nI 8 from rfl, pk_rem (by omega) (by omega) (by omega), show (q + 8 - 1) % 8 = q' by omega, zlet_e, hmA, A8, zgd_t (zin_nI hq8 (by omega)), nI_clamp (by omega), zb_of (becomeLike_spec (N := N) (mem := mA) (w := 11) (o := 14 + 2 * q') (by omega) (by omega)), hm1, f1 0 (by decide) (by decide), A7]
    · unfold f_X5_undo
      rw [m44, e6, if_neg (nI_ne0 (by omega) (by omega)), show nI u - (1 : Int32) = nI (u - 1) from pk_sub (b := 1) (by omega), zlet_e]
      exact x2
theorem c_keep (hN : 300 ≤ N) (hR : RR mem) (a : Int32) : okc (f_X4_keep N mem a) (fun m => f_X5_keep N m a) := by
  obtain ⟨D, hD⟩ := id hR
  have hns := hD.1.1.2.1
  rcases bd 0 1 (by omega) (by omega) a with h | ⟨c, -, hc, rfl⟩
  · refine ok_ro hR (-2) ?_ ?_
    · unfold f_X4_keep
      rw [zb_of (show f_X4_isWithin N mem a (0 : Int32) (1 : Int32) = _ from w4_out h)]
      rfl
    · unfold f_X5_keep
      rw [zb_of (show f_X5_in N mem a (0 : Int32) (1 : Int32) = _ from w5_out h)]
      rfl
  · obtain ⟨hB, ⟨hC, hRr⟩, hW, hU, hK, hS, hH, hT⟩ := hD
    have z2 : zin (nI c) 2 = true := zin_nI (by omega) (by omega)
    generalize hmA : bl mem (31 + 2 * c) 11 = mA
    have A : ∀ k, k ≠ 31 + 2 * c → k ≠ 32 + 2 * c → mA k = mem k := fun k k1 k2 => by rw [← hmA]; exact bl_ne k1 (by omega)
    have hm1 : ∀ k, k ≠ 35 → wr mA 35 c 1 k = mA k := fun k hk => wr_ne hk
    have m35 : wr mA 35 c 1 35 = upd (mem 35) c 1 := by rw [wr_at, A 35 (by omega) (by omega)]
    generalize hme : wr mA 35 c 1 = m1 at hm1 m35
    have hm48 : m1 48 = mem 48 := by rw [hm1 48 (by decide), A 48 (by omega) (by omega)]
    have hm50 : m1 50 = mem 50 := by rw [hm1 50 (by decide), A 50 (by omega) (by omega)]
    have hm51 : m1 51 = mem 51 := by rw [hm1 51 (by decide), A 51 (by omega) (by omega)]
    obtain ⟨m2, x2, f2, g2, s2, t2⟩ := keep5 (N := N) (c := c) (by omega) 12 N 0 m1 (by omega) (by omega)
    have g : ∀ k, k ≠ 31 + 2 * c → k ≠ 32 + 2 * c → k ≠ 35 → k ≠ 50 → k ≠ 51 → m2 k = mem k := fun k k1 k2 k3 k4 k5 => by rw [f2 k k4 k5, hm1 k k3, A k k1 k2]
    have fin : RR m2 := by
      refine ⟨D, hB, ⟨hC.fr (fun k a b => g k (by omega) (by omega) (by omega) (by omega) (by omega)), by rw [g 46 (by omega) (by omega) (by omega) (by omega) (by omega)]; exact hRr⟩, by rw [g 11 (by omega) (by omega) (by omega) (by omega) (by omega), g 12 (by omega) (by omega) (by omega) (by omega) (by omega), g 48 (by omega) (by omega) (by omega) (by omega) (by omega)]; exact hW, hU.fr (by rw [g 0 (by omega) (by omega) (by omega) (by omega) (by omega)]) (by rw [g 0 (by omega) (by omega) (by omega) (by omega) (by omega)]) (by rw [g 44 (by omega) (by omega) (by omega) (by omega) (by omega)]) (fun k a b => g k (by omega) (by omega) (by omega) (by omega) (by omega)) (g 49 (by omega) (by omega) (by omega) (by omega) (by omega)), ?_, hS.fr (by rw [g 36 (by omega) (by omega) (by omega) (by omega) (by omega)]) (by rw [g 44 (by omega) (by omega) (by omega) (by omega) (by omega)]) (fun k a b => g k (by omega) (by omega) (by omega) (by omega) (by omega)) (g 52 (by omega) (by omega) (by omega) (by omega) (by omega)), hH.fr (by rw [g 36 (by omega) (by omega) (by omega) (by omega) (by omega)]) (by rw [g 44 (by omega) (by omega) (by omega) (by omega) (by omega)]) (fun k a b => g k (by omega) (by omega) (by omega) (by omega) (by omega)) (g 53 (by omega) (by omega) (by omega) (by omega) (by omega)), hT.fr (by rw [g 1 (by omega) (by omega) (by omega) (by omega) (by omega)]) (by rw [g 44 (by omega) (by omega) (by omega) (by omega) (by omega)]) (g 2 (by omega) (by omega) (by omega) (by omega) (by omega)) (g 45 (by omega) (by omega) (by omega) (by omega) (by omega))⟩
      intro k hk
      by_cases e : k = c
      · subst e
        refine Or.inr ⟨?_, ?_, ?_⟩
        · rw [f2 35 (by omega) (by omega), m35, upd_at]
        · rw [g2, hm51, upd_at]
        · refine hW.congr hns (fun j hj => ?_) (fun j hj => ?_) (fun i hi => ?_)
          · rw [f2 _ (by omega) (by omega), hm1 _ (by omega), ← hmA]
            exact bl_f hj
          · rw [f2 _ (by omega) (by omega), hm1 _ (by omega), ← hmA, show 32 + 2 * k = 31 + 2 * k + 1 by omega]
            exact bl_g hj
          · rw [s2 i (by omega) hi, hm48]
      · rw [f2 35 (by omega) (by omega), m35, upd_ne e, g2, hm51, upd_ne e, g (31 + 2 * k) (by omega) (by omega) (by omega) (by omega) (by omega), g (32 + 2 * k) (by omega) (by omega) (by omega) (by omega) (by omega)]
        refine (hK k hk).imp id (fun h => ⟨h.1, h.2.1, h.2.2.congr hns (fun _ _ => rfl) (fun _ _ => rfl) (fun i hi => ?_)⟩)
        rw [t2 (12 * k + i) (by omega), hm50]
    obtain ⟨pr, pa, we, no, sg, hW⟩ := hW
    have e11 : m1 11 4 = nI no := by rw [hm1 11 (by decide), A 11 (by omega) (by omega)]; exact hW.2.1.2.2.2
    have e48 : m1 48 9 = nI no := by rw [hm48]; exact hW.2.2.1.2.2.2
    refine ok_rw (nI no) m1 m2 ?_ ?_ fin
    · unfold f_X4_keep
      rw [zb_of (show f_X4_isWithin N mem (nI c) (0 : Int32) (1 : Int32) = _ from wn4 (lo := 0) (hi := 1) (by omega) (by omega) (by omega)), if_pos (show 0 ≤ c ∧ c ≤ 1 by omega), if_neg (by decide), zgd_t z2, nI_clamp (by omega), zb_of (becomeLike_spec (N := N) (mem := mem) (w := 31 + 2 * c) (o := 11) (by omega) (by omega)), hmA, zgd_t z2, zlet_e, show vp_nar .boolean (1 : Int32) = 1 from rfl, hme, e11]
    · unfold f_X5_keep
      rw [zb_of (show f_X5_in N m1 (nI c) (0 : Int32) (1 : Int32) = _ from wn5 (lo := 0) (hi := 1) (by omega) (by omega) (by omega)), if_pos (show 0 ≤ c ∧ c ≤ 1 by omega), if_neg (by decide)]
      rw [e48] at x2
      exact x2
theorem c_back (hN : 300 ≤ N) (hR : RR mem) (a : Int32) : okc (f_X4_back N mem a) (fun m => f_X5_back N m a) := by
  obtain ⟨D, hD⟩ := id hR
  have hns := hD.1.1.2.1
  rcases bd 0 1 (by omega) (by omega) a with h | ⟨c, -, hc, rfl⟩
  · refine ok_ro hR (-2) ?_ ?_
    · unfold f_X4_back
      rw [zb_of (show f_X4_isWithin N mem a (0 : Int32) (1 : Int32) = _ from w4_out h)]
      rfl
    · unfold f_X5_back
      rw [zb_of (show f_X5_in N mem a (0 : Int32) (1 : Int32) = _ from w5_out h)]
      rfl
  · have z2 : zin (nI c) 2 = true := zin_nI (by omega) (by omega)
    have i4 : ∀ m, f_X4_isWithin N m (nI c) (0 : Int32) (1 : Int32) = some (1, m) := fun m => (wn4 (lo := 0) (hi := 1) (by omega) (by omega) (by omega)).trans (by rw [if_pos (show 0 ≤ c ∧ c ≤ 1 by omega)])
    have i5 : ∀ m, f_X5_in N m (nI c) (0 : Int32) (1 : Int32) = some (1, m) := fun m => (wn5 (lo := 0) (hi := 1) (by omega) (by omega) (by omega)).trans (by rw [if_pos (show 0 ≤ c ∧ c ≤ 1 by omega)])
    rcases hD.2.2.2.2.1 c (by omega) with ⟨k1, k2⟩ | ⟨k1, k2, k3⟩
    · refine ok_ro hR (-4) ?_ ?_
      · unfold f_X4_back
        rw [zb_of (i4 mem), if_neg (by decide), zgd_t z2, nI_clamp (by omega), k1, if_pos rfl]
      · unfold f_X5_back
        rw [zb_of (i5 mem), if_neg (by decide), zgd_t z2, nI_clamp (by omega), k2, if_pos rfl]
    · obtain ⟨u, q, hU⟩ := hD.2.2.2.1
      generalize hmA : bl mem 11 (31 + 2 * c) = mA
      have A : ∀ k, k ≠ 11 → k ≠ 12 → mA k = mem k := fun k k1 k2 => by rw [← hmA]; exact bl_ne k1 k2
      have hm1 : ∀ k, k ≠ 0 → wr mA 0 7 0 k = mA k := fun k hk => wr_ne hk
      have m0 : wr mA 0 7 0 0 = upd (mem 0) 7 0 := by rw [wr_at, A 0 (by omega) (by omega)]
      generalize hme : wr mA 0 7 0 = m1 at hm1 m0
      have hm44 : m1 44 = mem 44 := by rw [hm1 44 (by decide), A 44 (by omega) (by omega)]
      have hm50 : m1 50 = mem 50 := by rw [hm1 50 (by decide), A 50 (by omega) (by omega)]
      have hm51 : m1 51 = mem 51 := by rw [hm1 51 (by decide), A 51 (by omega) (by omega)]
      obtain ⟨m2, x2, f2, g2, s2, -⟩ := back5 (N := N) (c := c) (by omega) 12 N 0 m1 (by omega) (by omega)
      have g : ∀ k, k ≠ 0 → k ≠ 11 → k ≠ 12 → k ≠ 44 → k ≠ 48 → m2 k = mem k := fun k k1 k2 k3 k4 k5 => by rw [f2 k k5 k4, hm1 k k1, A k k2 k3]
      have hWn : RWe (D 0) (D 1) (m2 11) (m2 12) (m2 48) := by
        refine k3.congr hns (fun j hj => ?_) (fun j hj => ?_) (fun i hi => ?_)
        · rw [f2 11 (by decide) (by decide), hm1 11 (by decide), ← hmA]
          exact bl_f hj
        · rw [f2 12 (by decide) (by decide), hm1 12 (by decide), ← hmA, show (12 : Nat) = 11 + 1 from rfl, bl_g hj, show 31 + 2 * c + 1 = 32 + 2 * c by omega]
        · rw [s2 i (by omega) hi, hm50]
      have hUn : RUe m2 (D 0) (D 1) := by
        refine ⟨0, q, ⟨by omega, hU.1.2⟩, ⟨?_, ?_, ?_⟩, fun j hj => absurd hj (Nat.not_lt_zero j)⟩
        · rw [f2 0 (by decide) (by decide), m0, upd_at]; rfl
        · rw [f2 0 (by decide) (by decide), m0, upd_ne (by decide)]; exact hU.2.1.2.1
        · rw [g2, upd_at]; rfl
      have fin : RR m2 := week_step hD (fun k k0 k11 k12 k44 k48 _ _ => g k k0 k11 k12 k44 k48) (fun j hj => by rw [g2, upd_ne hj, hm44]) hWn hUn
      obtain ⟨pr, pa, we, no, sg, hWn⟩ := hWn
      have e11 : m1 11 4 = nI no := by rw [← f2 11 (by decide) (by decide)]; exact hWn.2.1.2.2.2
      have e48 : m2 48 9 = nI no := hWn.2.2.1.2.2.2
      refine ok_rw (nI no) m1 m2 ?_ ?_ fin
      · unfold f_X4_back
        rw [zb_of (i4 mem), if_neg (by decide), zgd_t z2, nI_clamp (by omega), k1, if_neg (by decide), zgd_t z2, zb_of (becomeLike_spec (N := N) (mem := mem) (w := 11) (o := 31 + 2 * c) (by omega) (by omega)), hmA, zlet_e, hme, e11]
      · unfold f_X5_back
        rw [zb_of (i5 m1), if_neg (by decide), zgd_t z2, nI_clamp (by omega), hm51, k2, if_neg (by decide)]
        rw [e48] at x2
        exact x2
end GM
