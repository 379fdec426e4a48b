/-! p1: one call on a fresh object -/
def zres {α : Type} (x : Option (Int32 × zMem)) (k : zMem → Option (Int32 × zMem)) : Option (Int32 × Int32) := match x with
  | none => none
  | some z => match k z.2 with
    | none => none
    | some w => some (z.1, w.1)
theorem zres_some {x : Option (Int32 × zMem)} {k : zMem → Option (Int32 × zMem)} {v : Int32} (h : zres (α := Unit) x k = some (v, v)) : ∃ (r : Int32) (m1 : zMem) (r2 : Int32) (m2 : zMem), x = some (r, m1) ∧ k m1 = some (r2, m2) ∧ r = r2 := by
  cases x with
  | none => cases h
  | some z =>
    unfold zres at h
    dsimp only at h
    cases hk : k z.2 with
    | none =>
      rw [hk] at h
      cases h
    | some w =>
      rw [hk] at h
      obtain ⟨z1, z2⟩ := z
      obtain ⟨w1, w2⟩ := w
      have h2 : some (z1, w1) = some (v, v) := h
      injection h2 with h3
      injection h3 with h4 h5
      exact ⟨z1, z2, w1, w2, rfl, hk, by rw [h4, h5]⟩
def zsame (x : Option (Int32 × zMem)) (k : zMem → Option (Int32 × zMem)) : Bool := match zres (α := Unit) x k with
  | none => false
  | some z => decide (z.1 = z.2)
theorem zsame_ok {x : Option (Int32 × zMem)} {k : zMem → Option (Int32 × zMem)} (h : zsame x k = true) : ∃ (r : Int32) (m1 : zMem) (r2 : Int32) (m2 : zMem), x = some (r, m1) ∧ k m1 = some (r2, m2) ∧ r = r2 := by
  unfold zsame at h
  cases hz : zres (α := Unit) x k with
  | none =>
    rw [hz] at h
    cases h
  | some z =>
    rw [hz] at h
    obtain ⟨a, b⟩ := z
    have h2 : a = b := of_decide_eq_true h
    subst h2
    exact zres_some hz
theorem p1_fault : zsame (f_X4_fault 40 m01) (fun m => f_X5_fault 40 m) = true := by decide +kernel
theorem p1_kirk : zsame (f_X4_kirk 40 m01) (fun m => f_X5_kirk 40 m) = true := by decide +kernel
theorem p1_erase : zsame (f_X4_erase 40 m01) (fun m => f_X5_erase 40 m) = true := by decide +kernel
theorem p1_sunday : zsame (f_X4_sunday 40 m01) (fun m => f_X5_sunday 40 m) = true := by decide +kernel
theorem p1_undo : zsame (f_X4_undo 40 m01) (fun m => f_X5_undo 40 m) = true := by decide +kernel
theorem p1_stops : zsame (f_X4_stops 40 m01) (fun m => f_X5_stops 40 m) = true := by decide +kernel
theorem p1_forget : zsame (f_X4_forget 40 m01) (fun m => f_X5_forget 40 m) = true := by decide +kernel
theorem p1_thumbs : zsame (f_X4_thumbs 40 m01) (fun m => f_X5_thumbs 40 m) = true := by decide +kernel
theorem p1_write_t : ∀ k0 : Fin 256, zsame (f_X4_write 40 m01 (nI k0.val)) (fun m => f_X5_write 40 m (nI k0.val)) = true := by decide +kernel
theorem p1_write (a : Int32) : ∃ (r : Int32) (m1 : zMem) (r2 : Int32) (m2 : zMem), f_X4_write 40 m01 a = some (r, m1) ∧ f_X5_write 40 m1 a = some (r2, m2) ∧ r = r2 := by
  by_cases h : a < 0 ∨ 255 < a
  · refine ⟨(-3), m01, (-3), m01, ?_, ?_, rfl⟩
    · unfold f_X4_write
      rw [zb_of (w4_out h)]
      rfl
    · unfold f_X5_write
      rw [zb_of (w5_out h)]
      rfl
  · obtain ⟨j, hj, rfl⟩ := in_of (n := 255) rfl h
    exact zsame_ok (p1_write_t ⟨j, by omega⟩)
theorem p1_ballast_t : ∀ k0 : Fin 21, zsame (f_X4_ballast 40 m01 (nI k0.val)) (fun m => f_X5_ballast 40 m (nI k0.val)) = true := by decide +kernel
theorem p1_ballast (a : Int32) : ∃ (r : Int32) (m1 : zMem) (r2 : Int32) (m2 : zMem), f_X4_ballast 40 m01 a = some (r, m1) ∧ f_X5_ballast 40 m1 a = some (r2, m2) ∧ r = r2 := by
  by_cases h : a < 1 ∨ 20 < a
  · refine ⟨(-3), m01, (-3), m01, ?_, ?_, rfl⟩
    · unfold f_X4_ballast
      rw [zb_of (w4_out h)]
      rfl
    · unfold f_X5_ballast
      rw [zb_of (w5_out h)]
      rfl
  · obtain ⟨j, hj, rfl⟩ := in_of (a := a) (M := 20) (n := 20) rfl (fun q => h (q.imp (fun q => Int32.lt_trans q (by decide)) id))
    exact zsame_ok (p1_ballast_t ⟨j, by omega⟩)
theorem p1_rain_t : ∀ k0 : Fin 10, zsame (f_X4_rain 40 m01 (nI k0.val)) (fun m => f_X5_rain 40 m (nI k0.val)) = true := by decide +kernel
theorem p1_rain (a : Int32) : ∃ (r : Int32) (m1 : zMem) (r2 : Int32) (m2 : zMem), f_X4_rain 40 m01 a = some (r, m1) ∧ f_X5_rain 40 m1 a = some (r2, m2) ∧ r = r2 := by
  by_cases h : a < 0 ∨ 9 < a
  · refine ⟨(-3), m01, (-3), m01, ?_, ?_, rfl⟩
    · unfold f_X4_rain
      rw [zb_of (w4_out h)]
      rfl
    · unfold f_X5_rain
      rw [zb_of (w5_out h)]
      rfl
  · obtain ⟨j, hj, rfl⟩ := in_of (n := 9) rfl h
    exact zsame_ok (p1_rain_t ⟨j, by omega⟩)
theorem p1_keep_t : ∀ k0 : Fin 2, zsame (f_X4_keep 40 m01 (nI k0.val)) (fun m => f_X5_keep 40 m (nI k0.val)) = true := by decide +kernel
theorem p1_keep (a : Int32) : ∃ (r : Int32) (m1 : zMem) (r2 : Int32) (m2 : zMem), f_X4_keep 40 m01 a = some (r, m1) ∧ f_X5_keep 40 m1 a = some (r2, m2) ∧ r = r2 := by
  by_cases h : a < 0 ∨ 1 < a
  · refine ⟨(-2), m01, (-2), m01, ?_, ?_, rfl⟩
    · unfold f_X4_keep
      rw [zb_of (w4_out h)]
      rfl
    · unfold f_X5_keep
      rw [zb_of (w5_out h)]
      rfl
  · obtain ⟨j, hj, rfl⟩ := in_of (n := 1) rfl h
    exact zsame_ok (p1_keep_t ⟨j, by omega⟩)
theorem p1_back_t : ∀ k0 : Fin 2, zsame (f_X4_back 40 m01 (nI k0.val)) (fun m => f_X5_back 40 m (nI k0.val)) = true := by decide +kernel
theorem p1_back (a : Int32) : ∃ (r : Int32) (m1 : zMem) (r2 : Int32) (m2 : zMem), f_X4_back 40 m01 a = some (r, m1) ∧ f_X5_back 40 m1 a = some (r2, m2) ∧ r = r2 := by
  by_cases h : a < 0 ∨ 1 < a
  · refine ⟨(-2), m01, (-2), m01, ?_, ?_, rfl⟩
    · unfold f_X4_back
      rw [zb_of (w4_out h)]
      rfl
    · unfold f_X5_back
      rw [zb_of (w5_out h)]
      rfl
  · obtain ⟨j, hj, rfl⟩ := in_of (n := 1) rfl h
    exact zsame_ok (p1_back_t ⟨j, by omega⟩)
theorem p1_soonest_t : ∀ k0 : Fin 2, zsame (f_X4_soonest 40 m01 (nI k0.val)) (fun m => f_X5_soonest 40 m (nI k0.val)) = true := by decide +kernel
theorem p1_soonest (a : Int32) : ∃ (r : Int32) (m1 : zMem) (r2 : Int32) (m2 : zMem), f_X4_soonest 40 m01 a = some (r, m1) ∧ f_X5_soonest 40 m1 a = some (r2, m2) ∧ r = r2 := by
  by_cases h : a < 0 ∨ 1 < a
  · refine ⟨(-3), m01, (-3), m01, ?_, ?_, rfl⟩
    · unfold f_X4_soonest
      rw [zb_of (w4_out h)]
      rfl
    · unfold f_X5_soonest
      rw [zb_of (w5_out h)]
      rfl
  · obtain ⟨j, hj, rfl⟩ := in_of (n := 1) rfl h
    exact zsame_ok (p1_soonest_t ⟨j, by omega⟩)
theorem p1_never_t : ∀ k0 : Fin 100, zsame (f_X4_never 40 m01 (nI k0.val)) (fun m => f_X5_never 40 m (nI k0.val)) = true := by decide +kernel
theorem p1_never (a : Int32) : ∃ (r : Int32) (m1 : zMem) (r2 : Int32) (m2 : zMem), f_X4_never 40 m01 a = some (r, m1) ∧ f_X5_never 40 m1 a = some (r2, m2) ∧ r = r2 := by
  by_cases h : a < 0 ∨ 99 < a
  · refine ⟨(-3), m01, (-3), m01, ?_, ?_, rfl⟩
    · unfold f_X4_never
      rw [zb_of (w4_out h)]
      rfl
    · unfold f_X5_never
      rw [zb_of (w5_out h)]
      rfl
  · obtain ⟨j, hj, rfl⟩ := in_of (n := 99) rfl h
    exact zsame_ok (p1_never_t ⟨j, by omega⟩)
theorem p1_isPart4 (a : Int32) : f_X4_isPart 40 m01 a = some (0, m01) := by
  unfold f_X4_isPart
  by_cases h : a < 0
  · rw [if_pos h]
  · rw [if_neg h, if_pos (show m01 6 4 ≤ a from Int32.not_lt.mp h)]
theorem p1_isSoul4 (a : Int32) : f_X4_isSoul 40 m01 a = some (0, m01) := by
  unfold f_X4_isSoul
  by_cases h : a < 0
  · rw [if_pos h]
  · rw [if_neg h, if_pos (show m01 6 5 ≤ a from Int32.not_lt.mp h)]
theorem p1_none (a : Int32) : a < 0 ∨ (-1 : Int32) < a := by
  by_cases h : a < 0
  · exact Or.inl h
  · exact Or.inr (Int32.lt_of_lt_of_le (by decide) (Int32.not_lt.mp h))
theorem p1_isPart5 (a : Int32) : f_X5_isPart 40 m01 a = some (0, m01) := by
  unfold f_X5_isPart
  rw [zb_of (w5_out (show a < 0 ∨ (m01 46 (0 : Int32).toNatClampNeg) - (1 : Int32) < a from p1_none a))]
  rfl
theorem p1_isSoul5 (a : Int32) : f_X5_in 40 m01 a (0 : Int32) ((m01 46 (1 : Int32).toNatClampNeg) - (1 : Int32)) = some (0, m01) := w5_out (p1_none a)
theorem p1_part (a b : Int32) : ∃ (r : Int32) (m1 : zMem) (r2 : Int32) (m2 : zMem), f_X4_part 40 m01 a b = some (r, m1) ∧ f_X5_part 40 m1 a b = some (r2, m2) ∧ r = r2 := by
  refine ⟨(-2), m01, (-2), m01, ?_, ?_, rfl⟩
  · unfold f_X4_part
    rw [zb_of (p1_isPart4 a)]
    rfl
  · unfold f_X5_part
    rw [zb_of (p1_isPart5 a)]
    rfl
theorem p1_as (a b : Int32) : ∃ (r : Int32) (m1 : zMem) (r2 : Int32) (m2 : zMem), f_X4_as 40 m01 a b = some (r, m1) ∧ f_X5_as 40 m1 a b = some (r2, m2) ∧ r = r2 := by
  refine ⟨(-2), m01, (-2), m01, ?_, ?_, rfl⟩
  · unfold f_X4_as
    rw [zb_of (p1_isPart4 a)]
    rfl
  · unfold f_X5_as
    rw [zb_of (p1_isPart5 a)]
    rfl
theorem p1_preach (a : Int32) : ∃ (r : Int32) (m1 : zMem) (r2 : Int32) (m2 : zMem), f_X4_preach 40 m01 a = some (r, m1) ∧ f_X5_preach 40 m1 a = some (r2, m2) ∧ r = r2 := by
  refine ⟨(-2), m01, (-2), m01, ?_, ?_, rfl⟩
  · unfold f_X4_preach
    rw [zb_of (p1_isPart4 a)]
    rfl
  · unfold f_X5_preach
    rw [zb_of (p1_isPart5 a)]
    rfl
theorem p1_weights (a : Int32) : ∃ (r : Int32) (m1 : zMem) (r2 : Int32) (m2 : zMem), f_X4_weights 40 m01 a = some (r, m1) ∧ f_X5_weights 40 m1 a = some (r2, m2) ∧ r = r2 := by
  refine ⟨(-2), m01, (-2), m01, ?_, ?_, rfl⟩
  · unfold f_X4_weights
    rw [zb_of (p1_isPart4 a)]
    rfl
  · unfold f_X5_weights
    rw [zb_of (p1_isPart5 a)]
    rfl
theorem p1_sins (a : Int32) : ∃ (r : Int32) (m1 : zMem) (r2 : Int32) (m2 : zMem), f_X4_sins 40 m01 a = some (r, m1) ∧ f_X5_sins 40 m1 a = some (r2, m2) ∧ r = r2 := by
  refine ⟨(-2), m01, (-2), m01, ?_, ?_, rfl⟩
  · unfold f_X4_sins
    rw [zb_of (p1_isSoul4 a)]
    rfl
  · unfold f_X5_sins
    rw [zb_of (p1_isSoul5 a)]
    rfl
theorem p1_sin (a b : Int32) : ∃ (r : Int32) (m1 : zMem) (r2 : Int32) (m2 : zMem), f_X4_sin 40 m01 a b = some (r, m1) ∧ f_X5_sin 40 m1 a b = some (r2, m2) ∧ r = r2 := by
  refine ⟨(-2), m01, (-2), m01, ?_, ?_, rfl⟩
  · unfold f_X4_sin
    rw [zb_of (p1_isSoul4 a)]
    rfl
  · unfold f_X5_sin
    rw [zb_of (p1_isSoul5 a)]
    rfl
theorem p1_set4 {a : Int32} (h : a < 0 ∨ 0 < a) : f_X4_isSet 40 m01 a = some (0, m01) := by
  unfold f_X4_isSet
  by_cases h1 : a < 0
  · rw [if_pos h1]
  · have h3 : (1 : Int32) ≤ a := by
      have h2 := h.resolve_left h1
      rw [Int32.lt_iff_toInt_lt] at h2
      rw [Int32.le_iff_toInt_le]
      exact h2
    rw [if_neg h1, if_pos (show (1 : Int32) <<< ((m01 6 4) &&& 31) ≤ a from h3)]
theorem p1_set5 {a : Int32} (h : a < 0 ∨ 0 < a) : f_X5_isSet 40 m01 a = some (0, m01) := by
  unfold f_X5_isSet
  rw [zb_of (w5_out (show a < 0 ∨ ((1 : Int32) <<< ((m01 46 (0 : Int32).toNatClampNeg) &&& 31)) - (1 : Int32) < a from h))]
  rfl
theorem p1_seen_t : ∀ k0 : Fin 10, ∀ k1 : Fin 256, zsame (f_X4_seen 40 m01 (nI 0) (nI k0.val) (nI k1.val)) (fun m => f_X5_seen 40 m (nI 0) (nI k0.val) (nI k1.val)) = true := by decide +kernel
theorem p1_seen (a b c : Int32) : ∃ (r : Int32) (m1 : zMem) (r2 : Int32) (m2 : zMem), f_X4_seen 40 m01 a b c = some (r, m1) ∧ f_X5_seen 40 m1 a b c = some (r2, m2) ∧ r = r2 := by
  by_cases h : a < 0 ∨ 0 < a
  · refine ⟨(-2), m01, (-2), m01, ?_, ?_, rfl⟩
    · unfold f_X4_seen
      rw [zb_of (p1_set4 h)]
      rfl
    · unfold f_X5_seen
      rw [zb_of (p1_set5 h)]
      rfl
  · obtain ⟨j, hj, rfl⟩ := in_of (n := 0) rfl h
    obtain rfl : j = 0 := by omega
    have s4 : f_X4_isSet 40 m01 (nI 0) = some (1, m01) := rfl
    have s5 : f_X5_isSet 40 m01 (nI 0) = some (1, m01) := rfl
    by_cases hb : b < 0 ∨ 9 < b
    · refine ⟨(-3), m01, (-3), m01, ?_, ?_, rfl⟩
      · unfold f_X4_seen
        rw [zb_of s4, if_neg (by decide), zb_of (w4_out hb)]
        rfl
      · unfold f_X5_seen
        rw [zb_of s5, if_neg (by decide), zb_of (w5_out hb)]
        rfl
    · by_cases hc : c < 0 ∨ 255 < c
      · refine ⟨(-3), m01, (-3), m01, ?_, ?_, rfl⟩
        · unfold f_X4_seen
          rw [zb_of s4, if_neg (by decide), zb_of (w4_in hb), if_neg (by decide), zb_of (w4_out hc)]
          rfl
        · unfold f_X5_seen
          rw [zb_of s5, if_neg (by decide), zb_of (w5_in hb), if_neg (by decide), zb_of (w5_out hc)]
          rfl
      · obtain ⟨i, hi, rfl⟩ := in_of (n := 9) rfl hb
        obtain ⟨k, hk, rfl⟩ := in_of (n := 255) rfl hc
        exact zsame_ok (p1_seen_t ⟨i, by omega⟩ ⟨k, by omega⟩)
theorem p1_heard_t : ∀ k0 : Fin 100, ∀ k1 : Fin 2, zsame (f_X4_heard 40 m01 (nI 0) (nI k0.val) (nI k1.val)) (fun m => f_X5_heard 40 m (nI 0) (nI k0.val) (nI k1.val)) = true := by decide +kernel
theorem p1_heard (a b c : Int32) : ∃ (r : Int32) (m1 : zMem) (r2 : Int32) (m2 : zMem), f_X4_heard 40 m01 a b c = some (r, m1) ∧ f_X5_heard 40 m1 a b c = some (r2, m2) ∧ r = r2 := by
  by_cases h : a < 0 ∨ 0 < a
  · refine ⟨(-2), m01, (-2), m01, ?_, ?_, rfl⟩
    · unfold f_X4_heard
      rw [zb_of (p1_set4 h)]
      rfl
    · unfold f_X5_heard
      rw [zb_of (p1_set5 h)]
      rfl
  · obtain ⟨j, hj, rfl⟩ := in_of (n := 0) rfl h
    obtain rfl : j = 0 := by omega
    have s4 : f_X4_isSet 40 m01 (nI 0) = some (1, m01) := rfl
    have s5 : f_X5_isSet 40 m01 (nI 0) = some (1, m01) := rfl
    by_cases hb : b < 0 ∨ 99 < b
    · refine ⟨(-3), m01, (-3), m01, ?_, ?_, rfl⟩
      · unfold f_X4_heard
        rw [zb_of s4, if_neg (by decide), zb_of (w4_out hb)]
        rfl
      · unfold f_X5_heard
        rw [zb_of s5, if_neg (by decide), zb_of (w5_out hb)]
        rfl
    · by_cases hc : c < 0 ∨ 1 < c
      · refine ⟨(-3), m01, (-3), m01, ?_, ?_, rfl⟩
        · unfold f_X4_heard
          rw [zb_of s4, if_neg (by decide), zb_of (w4_in hb), if_neg (by decide), zb_of (w4_out hc)]
          rfl
        · unfold f_X5_heard
          rw [zb_of s5, if_neg (by decide), zb_of (w5_in hb), if_neg (by decide), zb_of (w5_out hc)]
          rfl
      · obtain ⟨i, hi, rfl⟩ := in_of (n := 99) rfl hb
        obtain ⟨k, hk, rfl⟩ := in_of (n := 1) rfl hc
        exact zsame_ok (p1_heard_t ⟨i, by omega⟩ ⟨k, by omega⟩)
theorem p1_confessed_t : ∀ k0 : Fin 11, ∀ k1 : Fin 2, zsame (f_X4_confessed 40 m01 (nI k0.val) (nI k1.val)) (fun m => f_X5_confessed 40 m (nI k0.val) (nI k1.val)) = true := by decide +kernel
theorem p1_confessed (a b : Int32) : ∃ (r : Int32) (m1 : zMem) (r2 : Int32) (m2 : zMem), f_X4_confessed 40 m01 a b = some (r, m1) ∧ f_X5_confessed 40 m1 a b = some (r2, m2) ∧ r = r2 := by
  by_cases ha : a < 0 ∨ 10 < a
  · refine ⟨(-3), m01, (-3), m01, ?_, ?_, rfl⟩
    · unfold f_X4_confessed
      rw [zb_of (w4_out ha)]
      rfl
    · unfold f_X5_confessed
      rw [zb_of (w5_out ha)]
      rfl
  · by_cases hb : b < 0 ∨ 1 < b
    · refine ⟨(-3), m01, (-3), m01, ?_, ?_, rfl⟩
      · unfold f_X4_confessed
        rw [zb_of (w4_in ha), if_neg (by decide), zb_of (w4_out hb)]
        rfl
      · unfold f_X5_confessed
        rw [zb_of (w5_in ha), if_neg (by decide), zb_of (w5_out hb)]
        rfl
    · obtain ⟨i, hi, rfl⟩ := in_of (n := 10) rfl ha
      obtain ⟨k, hk, rfl⟩ := in_of (n := 1) rfl hb
      exact zsame_ok (p1_confessed_t ⟨i, by omega⟩ ⟨k, by omega⟩)
theorem p1_count_t : ∀ k0 : Fin 15, zsame (f_X4_count 40 m01 (nI k0.val)) (fun m => f_X5_count 40 m (nI k0.val)) = true := by decide +kernel
theorem p1_count (a : Int32) : ∃ (r : Int32) (m1 : zMem) (r2 : Int32) (m2 : zMem), f_X4_count 40 m01 a = some (r, m1) ∧ f_X5_count 40 m1 a = some (r2, m2) ∧ r = r2 := by
  by_cases h0 : a = 0
  · subst h0
    exact zsame_ok (p1_count_t ⟨0, by omega⟩)
  by_cases h1 : a = 1
  · subst h1
    exact zsame_ok (p1_count_t ⟨1, by omega⟩)
  by_cases h2 : a = 2
  · subst h2
    exact zsame_ok (p1_count_t ⟨2, by omega⟩)
  by_cases h3 : a = 3
  · subst h3
    exact zsame_ok (p1_count_t ⟨3, by omega⟩)
  by_cases h4 : a = 4
  · subst h4
    exact zsame_ok (p1_count_t ⟨4, by omega⟩)
  by_cases h5 : a = 5
  · subst h5
    exact zsame_ok (p1_count_t ⟨5, by omega⟩)
  by_cases h6 : a = 6
  · subst h6
    exact zsame_ok (p1_count_t ⟨6, by omega⟩)
  by_cases h7 : a = 7
  · subst h7
    exact zsame_ok (p1_count_t ⟨7, by omega⟩)
  by_cases h8 : a = 8
  · subst h8
    exact zsame_ok (p1_count_t ⟨8, by omega⟩)
  by_cases h9 : a = 9
  · subst h9
    exact zsame_ok (p1_count_t ⟨9, by omega⟩)
  by_cases h10 : a = 10
  · subst h10
    exact zsame_ok (p1_count_t ⟨10, by omega⟩)
  by_cases h11 : a = 11
  · subst h11
    exact zsame_ok (p1_count_t ⟨11, by omega⟩)
  by_cases h12 : a = 12
  · subst h12
    exact zsame_ok (p1_count_t ⟨12, by omega⟩)
  by_cases h13 : a = 13
  · subst h13
    exact zsame_ok (p1_count_t ⟨13, by omega⟩)
  by_cases h14 : a = 14
  · subst h14
    exact zsame_ok (p1_count_t ⟨14, by omega⟩)
  refine ⟨(-3), m01, (-3), m01, ?_, ?_, rfl⟩
  · unfold f_X4_count
    rw [if_neg h0, if_neg h1, if_neg h2, if_neg h3, if_neg h4, if_neg h5, if_neg h6, if_neg h7, if_neg h8, if_neg h9, if_neg h10, if_neg h11, if_neg h12, if_neg h13, if_neg h14]
  · unfold f_X5_count
    rw [if_neg h0, if_neg h1, if_neg h2, if_neg h3, if_neg h4, if_neg h5, if_neg h6, if_neg h7, if_neg h8, if_neg h9, if_neg h10, if_neg h11, if_neg h12, if_neg h13, if_neg h14]
def p1_I (i : Nat) (mem : zMem) : Prop := i = 0 → mem = m01
theorem p1_I4 (i : Nat) (mem : zMem) : p1_I (i + 4) mem := fun h => absurd h (by omega)
theorem p1_ops {L : Nat} (hL : L ≤ 4) : zOps 40 L p1_I := by
  have h0 : ∀ (i : Nat) (mem : zMem), i + 4 ≤ L → p1_I i mem → mem = m01 := fun i mem hi h => h (by omega)
  refine ⟨?_, ?_, ?_, ?_, ?_, ?_, ?_, ?_, ?_, ?_, ?_, ?_, ?_, ?_, ?_, ?_, ?_, ?_, ?_, ?_, ?_, ?_, ?_, ?_, ?_⟩
  · intro i mem a hi hI
    obtain rfl := h0 i mem hi hI
    obtain ⟨r, m1, r2, m2, q1, q2, q3⟩ := p1_write a
    exact ⟨r, m1, r2, m2, q1, q2, q3, p1_I4 i m2⟩
  · intro i mem hi hI
    obtain rfl := h0 i mem hi hI
    obtain ⟨r, m1, r2, m2, q1, q2, q3⟩ := zsame_ok p1_erase
    exact ⟨r, m1, r2, m2, q1, q2, q3, p1_I4 i m2⟩
  · intro i mem hi hI
    obtain rfl := h0 i mem hi hI
    obtain ⟨r, m1, r2, m2, q1, q2, q3⟩ := zsame_ok p1_fault
    exact ⟨r, m1, r2, m2, q1, q2, q3, p1_I4 i m2⟩
  · intro i mem hi hI
    obtain rfl := h0 i mem hi hI
    obtain ⟨r, m1, r2, m2, q1, q2, q3⟩ := zsame_ok p1_kirk
    exact ⟨r, m1, r2, m2, q1, q2, q3, p1_I4 i m2⟩
  · intro i mem a b hi hI
    obtain rfl := h0 i mem hi hI
    obtain ⟨r, m1, r2, m2, q1, q2, q3⟩ := p1_part a b
    exact ⟨r, m1, r2, m2, q1, q2, q3, p1_I4 i m2⟩
  · intro i mem a hi hI
    obtain rfl := h0 i mem hi hI
    obtain ⟨r, m1, r2, m2, q1, q2, q3⟩ := p1_sins a
    exact ⟨r, m1, r2, m2, q1, q2, q3, p1_I4 i m2⟩
  · intro i mem a b hi hI
    obtain rfl := h0 i mem hi hI
    obtain ⟨r, m1, r2, m2, q1, q2, q3⟩ := p1_as a b
    exact ⟨r, m1, r2, m2, q1, q2, q3, p1_I4 i m2⟩
  · intro i mem a hi hI
    obtain rfl := h0 i mem hi hI
    obtain ⟨r, m1, r2, m2, q1, q2, q3⟩ := p1_preach a
    exact ⟨r, m1, r2, m2, q1, q2, q3, p1_I4 i m2⟩
  · intro i mem a b hi hI
    obtain rfl := h0 i mem hi hI
    obtain ⟨r, m1, r2, m2, q1, q2, q3⟩ := p1_sin a b
    exact ⟨r, m1, r2, m2, q1, q2, q3, p1_I4 i m2⟩
  · intro i mem a hi hI
    obtain rfl := h0 i mem hi hI
    obtain ⟨r, m1, r2, m2, q1, q2, q3⟩ := p1_ballast a
    exact ⟨r, m1, r2, m2, q1, q2, q3, p1_I4 i m2⟩
  · intro i mem a hi hI
    obtain rfl := h0 i mem hi hI
    obtain ⟨r, m1, r2, m2, q1, q2, q3⟩ := p1_rain a
    exact ⟨r, m1, r2, m2, q1, q2, q3, p1_I4 i m2⟩
  · intro i mem hi hI
    obtain rfl := h0 i mem hi hI
    obtain ⟨r, m1, r2, m2, q1, q2, q3⟩ := zsame_ok p1_sunday
    exact ⟨r, m1, r2, m2, q1, q2, q3, p1_I4 i m2⟩
  · intro i mem hi hI
    obtain rfl := h0 i mem hi hI
    obtain ⟨r, m1, r2, m2, q1, q2, q3⟩ := zsame_ok p1_undo
    exact ⟨r, m1, r2, m2, q1, q2, q3, p1_I4 i m2⟩
  · intro i mem a hi hI
    obtain rfl := h0 i mem hi hI
    obtain ⟨r, m1, r2, m2, q1, q2, q3⟩ := p1_keep a
    exact ⟨r, m1, r2, m2, q1, q2, q3, p1_I4 i m2⟩
  · intro i mem a hi hI
    obtain rfl := h0 i mem hi hI
    obtain ⟨r, m1, r2, m2, q1, q2, q3⟩ := p1_back a
    exact ⟨r, m1, r2, m2, q1, q2, q3, p1_I4 i m2⟩
  · intro i mem hi hI
    obtain rfl := h0 i mem hi hI
    obtain ⟨r, m1, r2, m2, q1, q2, q3⟩ := zsame_ok p1_stops
    exact ⟨r, m1, r2, m2, q1, q2, q3, p1_I4 i m2⟩
  · intro i mem a hi hI
    obtain rfl := h0 i mem hi hI
    obtain ⟨r, m1, r2, m2, q1, q2, q3⟩ := p1_soonest a
    exact ⟨r, m1, r2, m2, q1, q2, q3, p1_I4 i m2⟩
  · intro i mem a hi hI
    obtain rfl := h0 i mem hi hI
    obtain ⟨r, m1, r2, m2, q1, q2, q3⟩ := p1_never a
    exact ⟨r, m1, r2, m2, q1, q2, q3, p1_I4 i m2⟩
  · intro i mem a b c hi hI
    obtain rfl := h0 i mem hi hI
    obtain ⟨r, m1, r2, m2, q1, q2, q3⟩ := p1_seen a b c
    exact ⟨r, m1, r2, m2, q1, q2, q3, p1_I4 i m2⟩
  · intro i mem a b c hi hI
    obtain rfl := h0 i mem hi hI
    obtain ⟨r, m1, r2, m2, q1, q2, q3⟩ := p1_heard a b c
    exact ⟨r, m1, r2, m2, q1, q2, q3, p1_I4 i m2⟩
  · intro i mem hi hI
    obtain rfl := h0 i mem hi hI
    obtain ⟨r, m1, r2, m2, q1, q2, q3⟩ := zsame_ok p1_forget
    exact ⟨r, m1, r2, m2, q1, q2, q3, p1_I4 i m2⟩
  · intro i mem a hi hI
    obtain rfl := h0 i mem hi hI
    obtain ⟨r, m1, r2, m2, q1, q2, q3⟩ := p1_weights a
    exact ⟨r, m1, r2, m2, q1, q2, q3, p1_I4 i m2⟩
  · intro i mem hi hI
    obtain rfl := h0 i mem hi hI
    obtain ⟨r, m1, r2, m2, q1, q2, q3⟩ := zsame_ok p1_thumbs
    exact ⟨r, m1, r2, m2, q1, q2, q3, p1_I4 i m2⟩
  · intro i mem a b hi hI
    obtain rfl := h0 i mem hi hI
    obtain ⟨r, m1, r2, m2, q1, q2, q3⟩ := p1_confessed a b
    exact ⟨r, m1, r2, m2, q1, q2, q3, p1_I4 i m2⟩
  · intro i mem a hi hI
    obtain rfl := h0 i mem hi hI
    obtain ⟨r, m1, r2, m2, q1, q2, q3⟩ := p1_count a
    exact ⟨r, m1, r2, m2, q1, q2, q3, p1_I4 i m2⟩
theorem whole_start {p : Program} {e : Env} {s : State} {m : MethodId} {below : List Frame} {meth : Method} {c : Code} (l : Launch) (hflags : l.flags = flags0) {b L : Nat} {xs : Nat → Int32} (hL : L ≤ 4) (C0 : lw_At p s m meth c b L xs) : W p l e room_1 s m #[Value.ref b] below meth c s.heap [] 0 0 (lw_Z below #[Value.ref b] s) (entryFrame m ([Value.ref b] : List Value).toArray 4) := whole_of l hL C0 40 m01 (init_spec (by omega)) p1_I (fun _ => rfl) (p1_ops hL) (fun i mem _ _ => p1_I4 i mem)
