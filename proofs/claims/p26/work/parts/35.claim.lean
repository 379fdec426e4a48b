/-! the claim: the invariant is kept by every call, and the compared calls answer the same -/
theorem cl_ops {L : Nat} : zOps 300 L (fun _ m => RR m) := by
  refine ⟨?_, ?_, ?_, ?_, ?_, ?_, ?_, ?_, ?_, ?_, ?_, ?_, ?_, ?_, ?_, ?_, ?_, ?_, ?_, ?_, ?_, ?_, ?_, ?_, ?_⟩
  · intro i mem a hi hI
    obtain ⟨r, m1, m2, q1, q2, q3⟩ := c_write (N := 300) hI a
    exact ⟨r, m1, r, m2, q1, q2, trivial, q3⟩
  · intro i mem hi hI
    obtain ⟨r, m1, m2, q1, q2, q3⟩ := c_erase (N := 300) hI
    exact ⟨r, m1, r, m2, q1, q2, trivial, q3⟩
  · intro i mem hi hI
    obtain ⟨r, m1, m2, q1, q2, q3⟩ := c_fault (Nat.le_refl 300) hI
    exact ⟨r, m1, r, m2, q1, q2, trivial, q3⟩
  · intro i mem hi hI
    obtain ⟨r, m1, m2, q1, q2, q3⟩ := c_kirk (Nat.le_refl 300) hI
    exact ⟨r, m1, r, m2, q1, q2, trivial, q3⟩
  · intro i mem a b hi hI
    obtain ⟨r, m1, m2, q1, q2, q3⟩ := c_part (N := 300) hI a b
    exact ⟨r, m1, r, m2, q1, q2, trivial, q3⟩
  · intro i mem a hi hI
    obtain ⟨r, m1, m2, q1, q2, q3⟩ := c_sins (N := 300) hI a
    exact ⟨r, m1, r, m2, q1, q2, trivial, q3⟩
  · intro i mem a b hi hI
    obtain ⟨r, m1, m2, q1, q2, q3⟩ := c_as (N := 300) hI a b
    exact ⟨r, m1, r, m2, q1, q2, trivial, q3⟩
  · intro i mem a hi hI
    obtain ⟨r, m1, m2, q1, q2, q3⟩ := c_preach (Nat.le_refl 300) hI a
    exact ⟨r, m1, r, m2, q1, q2, trivial, q3⟩
  · intro i mem a b hi hI
    obtain ⟨r, m1, m2, q1, q2, q3⟩ := c_sin (Nat.le_refl 300) hI a b
    exact ⟨r, m1, r, m2, q1, q2, trivial, q3⟩
  · intro i mem a hi hI
    obtain ⟨r, m1, m2, q1, q2, q3⟩ := c_ballast (Nat.le_refl 300) hI a
    exact ⟨r, m1, r, m2, q1, q2, trivial, q3⟩
  · intro i mem a hi hI
    obtain ⟨r, m1, m2, q1, q2, q3⟩ := c_rain (Nat.le_refl 300) hI a
    exact ⟨r, m1, r, m2, q1, q2, trivial, q3⟩
  · intro i mem hi hI
    obtain ⟨r, m1, m2, q1, q2, q3⟩ := c_sunday (Nat.le_refl 300) hI
    exact ⟨r, m1, r, m2, q1, q2, trivial, q3⟩
  · intro i mem hi hI
    obtain ⟨r, m1, m2, q1, q2, q3⟩ := c_undo (Nat.le_refl 300) hI
    exact ⟨r, m1, r, m2, q1, q2, trivial, q3⟩
  · intro i mem a hi hI
    obtain ⟨r, m1, m2, q1, q2, q3⟩ := c_keep (Nat.le_refl 300) hI a
    exact ⟨r, m1, r, m2, q1, q2, trivial, q3⟩
  · intro i mem a hi hI
    obtain ⟨r, m1, m2, q1, q2, q3⟩ := c_back (Nat.le_refl 300) hI a
    exact ⟨r, m1, r, m2, q1, q2, trivial, q3⟩
  · intro i mem hi hI
    obtain ⟨r, m1, m2, q1, q2, q3⟩ := c_stops (Nat.le_refl 300) hI
    exact ⟨r, m1, r, m2, q1, q2, trivial, q3⟩
  · intro i mem a hi hI
    obtain ⟨r, m1, m2, q1, q2, q3⟩ := c_soonest (Nat.le_refl 300) hI a
    exact ⟨r, m1, r, m2, q1, q2, trivial, q3⟩
  · intro i mem a hi hI
    obtain ⟨r, m1, m2, q1, q2, q3⟩ := c_never (Nat.le_refl 300) hI a
    exact ⟨r, m1, r, m2, q1, q2, trivial, q3⟩
  · intro i mem a b c hi hI
    obtain ⟨r, m1, m2, q1, q2, q3⟩ := c_seen (N := 300) hI a b c
    exact ⟨r, m1, r, m2, q1, q2, trivial, q3⟩
  · intro i mem a b c hi hI
    obtain ⟨r, m1, m2, q1, q2, q3⟩ := c_heard (N := 300) hI a b c
    exact ⟨r, m1, r, m2, q1, q2, trivial, q3⟩
  · intro i mem hi hI
    obtain ⟨r, m1, m2, q1, q2, q3⟩ := c_forget (N := 300) hI
    exact ⟨r, m1, r, m2, q1, q2, trivial, q3⟩
  · intro i mem a hi hI
    obtain ⟨r, m1, m2, q1, q2, q3⟩ := c_weights (Nat.le_refl 300) hI a
    exact ⟨r, m1, r, m2, q1, q2, trivial, q3⟩
  · intro i mem hi hI
    obtain ⟨r, m1, r2, m2, q1, q2, q3⟩ := c_thumbs (Nat.le_refl 300) hI
    exact ⟨r, m1, r2, m2, q1, q2, trivial, q3⟩
  · intro i mem a b hi hI
    obtain ⟨r, m1, m2, q1, q2, q3⟩ := c_confessed (Nat.le_refl 300) hI a b
    exact ⟨r, m1, r, m2, q1, q2, trivial, q3⟩
  · intro i mem a hi hI
    obtain ⟨r, m1, m2, q1, q2, q3⟩ := c_count (Nat.le_refl 300) hI a
    exact ⟨r, m1, r, m2, q1, q2, rfl, q3⟩
theorem whole_start {p : Program} {e : Env} {s : State} {m : MethodId} {below : List Frame} {meth : Method} {c : Code} (l : Launch) (hflags : l.flags = flags0) {b L : Nat} {xs : Nat → Int32} (hL : L ≤ 2048) (C0 : lw_At p s m meth c b L xs) : W p l e room_1 s m #[Value.ref b] below meth c s.heap [] 0 0 (lw_Z below #[Value.ref b] s) (entryFrame m ([Value.ref b] : List Value).toArray 4) := whole_of l hL C0 300 m01 (init_spec (by omega)) (fun _ m => RR m) RR_0 cl_ops (fun _ _ _ h => h)
