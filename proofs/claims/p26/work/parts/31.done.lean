/-! WHAT IS DONE: the week changes, the past remembers -/
theorem rem_spec {N : Nat} (hN : 300 ≤ N) {mem : zMem} {np ns : Nat} (hns : ns ≤ 6) (H : RUe mem np ns) (hW : RWe np ns (mem 11) (mem 12) (mem 48)) : ∃ mA : zMem, f_X4_rememberWeek N mem = some ((), mA) ∧ (∀ k, k ≠ 0 → (k < 14 ∨ 29 < k) → mA k = mem k) ∧ ∀ m1 : zMem, (∀ k, k ≠ 11 → k ≠ 12 → m1 k = mA k) → ∃ mB : zMem, f_X5_keeps N m1 = some ((), mB) ∧ (∀ k, k ≠ 49 → k ≠ 44 → mB k = m1 k) ∧ (∀ j, j ≠ 6 → mB 44 j = m1 44 j) ∧ ∀ m2 : zMem, (∀ k, k ≠ 48 → m2 k = mB k) → RUe m2 np ns := by
  obtain ⟨u, q, H⟩ := H
  have hu : u ≤ 8 ∧ q < 8 := H.1
  have e6 : mem 44 6 = nI u := H.2.1.2.2
  refine ⟨_, remember_spec H, fun k h0 h1 => ?_, fun m1 hm1 => ?_⟩
  · rw [rset_ne h0]
    exact bl_ne (by omega) (by omega)
  · have a44 : m1 44 = mem 44 := by rw [hm1 44 (by decide) (by decide), rset_ne (by decide)]; exact bl_ne (by omega) (by omega)
    have a48 : m1 48 = mem 48 := by rw [hm1 48 (by decide) (by decide), rset_ne (by decide)]; exact bl_ne (by omega) (by omega)
    have a49 : m1 49 = mem 49 := by rw [hm1 49 (by decide) (by decide), rset_ne (by decide)]; exact bl_ne (by omega) (by omega)
    obtain ⟨p', x, hp1, hp2⟩ := keeps_spec hN (mem := m1) hu.1 (by rw [a44]; exact e6)
    refine ⟨_, x, fun k k1 k2 => by rw [rset_ne k2, rset_ne k1], fun j hj => by rw [rset_at, upd_ne hj], fun m2 hm2 => ?_⟩
    have c : ∀ k, k ≠ 48 → k ≠ 49 → k ≠ 44 → k ≠ 11 → k ≠ 12 → k ≠ 0 → m2 k = bl mem (14 + 2 * q) 11 k := fun k k1 k2 k3 k4 k5 k6 => by
      rw [hm2 k k1, rset_ne k3, rset_ne k2, hm1 k k4 k5, rset_ne k6]
    have c0 : m2 0 = upd (upd (mem 0) 8 (nI ((q + 1) % 8))) 7 (nI (up8 u)) := by
      rw [hm2 0 (by decide), rset_ne (by decide), rset_ne (by decide), hm1 0 (by decide) (by decide), rset_at]
    have c44 : m2 44 6 = nI (up8 u) := by rw [hm2 44 (by decide), rset_at, upd_at]
    have c49 : m2 49 = p' := by rw [hm2 49 (by decide), rset_ne (by decide), rset_at]
    refine ⟨up8 u, (q + 1) % 8, H.step hns hW ?_ ?_ c44 ?_ ?_ ?_ ?_ ?_⟩
    · rw [c0, upd_at]
    · rw [c0, upd_ne (by decide), upd_at]
    · intro i hi hne
      rw [c _ (by omega) (by omega) (by omega) (by omega) (by omega) (by omega), c _ (by omega) (by omega) (by omega) (by omega) (by omega) (by omega)]
      exact ⟨bl_ne (by omega) (by omega), bl_ne (by omega) (by omega)⟩
    · intro j hj
      rw [c _ (by omega) (by omega) (by omega) (by omega) (by omega) (by omega)]
      exact bl_f hj
    · intro j hj
      rw [c _ (by omega) (by omega) (by omega) (by omega) (by omega) (by omega), show 15 + 2 * q = 14 + 2 * q + 1 by omega]
      exact bl_g hj
    · intro i hi
      rw [c49, hp1 i hi, a48]
    · intro j hj i hi
      rw [c49, hp2 j hj i hi, a49]
theorem week_step {D : Nat → Nat} {mem m2 : zMem} (hD : RD D mem) (h1 : ∀ k, k ≠ 0 → k ≠ 11 → k ≠ 12 → k ≠ 44 → k ≠ 48 → k ≠ 49 → (k < 14 ∨ 29 < k) → m2 k = mem k) (h44 : ∀ j, j ≠ 6 → m2 44 j = mem 44 j) (hW : RWe (D 0) (D 1) (m2 11) (m2 12) (m2 48)) (hU : RUe m2 (D 0) (D 1)) : RR m2 := by
  obtain ⟨hB, ⟨hC, hR⟩, -, -, hK, hN, hH, hT⟩ := hD
  have c : ∀ k, k ≠ 0 → k ≠ 11 → k ≠ 12 → k ≠ 44 → k ≠ 48 → k ≠ 49 → (k < 14 ∨ 29 < k) → m2 k = mem k := h1
  refine ⟨D, hB, ⟨hC.fr (fun k a b => c k (by omega) (by omega) (by omega) (by omega) (by omega) (by omega) (by omega)), by rw [c 46 (by omega) (by omega) (by omega) (by omega) (by omega) (by omega) (by omega)]; exact hR⟩, hW, hU, hK.fr (fun k a b => c k (by omega) (by omega) (by omega) (by omega) (by omega) (by omega) (by omega)) (c 50 (by omega) (by omega) (by omega) (by omega) (by omega) (by omega) (by omega)) (c 51 (by omega) (by omega) (by omega) (by omega) (by omega) (by omega) (by omega)), hN.fr (by rw [c 36 (by omega) (by omega) (by omega) (by omega) (by omega) (by omega) (by omega)]) (h44 10 (by decide)) (fun k a b => c k (by omega) (by omega) (by omega) (by omega) (by omega) (by omega) (by omega)) (c 52 (by omega) (by omega) (by omega) (by omega) (by omega) (by omega) (by omega)), hH.fr (by rw [c 36 (by omega) (by omega) (by omega) (by omega) (by omega) (by omega) (by omega)]) (h44 12 (by decide)) (fun k a b => c k (by omega) (by omega) (by omega) (by omega) (by omega) (by omega) (by omega)) (c 53 (by omega) (by omega) (by omega) (by omega) (by omega) (by omega) (by omega)), hT.fr (by rw [c 1 (by omega) (by omega) (by omega) (by omega) (by omega) (by omega) (by omega)]) (h44 1 (by decide)) (c 2 (by omega) (by omega) (by omega) (by omega) (by omega) (by omega) (by omega)) (c 45 (by omega) (by omega) (by omega) (by omega) (by omega) (by omega) (by omega))⟩
theorem done_step {N : Nat} (hN : 300 ≤ N) {D : Nat → Nat} {mem : zMem} (hD : RD D mem) : ∃ mA : zMem, f_X4_rememberWeek N mem = some ((), mA) ∧ (∀ k, k ≠ 0 → (k < 14 ∨ 29 < k) → mA k = mem k) ∧ ∀ m1 : zMem, (∀ k, k ≠ 11 → k ≠ 12 → m1 k = mA k) → ∃ mB : zMem, f_X5_keeps N m1 = some ((), mB) ∧ (∀ k, k ≠ 49 → k ≠ 44 → mB k = m1 k) ∧ ∀ m2 : zMem, (∀ k, k ≠ 48 → m2 k = mB k) → RWe (D 0) (D 1) (m2 11) (m2 12) (m2 48) → RR m2 := by
  obtain ⟨mA, x, f, g⟩ := rem_spec hN hD.1.1.2.1 hD.2.2.2.1 hD.2.2.1
  refine ⟨mA, x, f, fun m1 hm1 => ?_⟩
  obtain ⟨mB, y, f2, f3, g2⟩ := g m1 hm1
  refine ⟨mB, y, f2, fun m2 hm2 hW => week_step hD ?_ ?_ hW (g2 m2 hm2)⟩
  · intro k k0 k11 k12 k44 k48 k49 kr
    rw [hm2 k k48, f2 k k49 k44, hm1 k k11 k12, f k k0 kr]
  · intro j hj
    rw [hm2 44 (by decide), f3 j hj, hm1 44 (by decide) (by decide), f 44 (by decide) (by decide)]
theorem RW.paid {np ns : Nat} {f g h : Nat → Int32} {pr pa we no : Nat} {sg : Nat → Nat} (H : RW np ns f g h pr pa we no sg) (hns : ns ≤ 6) {p : Nat} (hp : p ≤ 99) : RW np ns (upd f 2 (nI p)) g (upd h 8 (nI p)) pr p we no sg := by
  obtain ⟨⟨b1, b2, b3, b4⟩, ⟨f1, f2, f3, f4⟩, ⟨h7, h8, h6, h9⟩, ⟨q5, q6⟩, hs⟩ := H
  exact ⟨⟨b1, hp, b3, b4⟩, ⟨(upd_ne (by decide)).trans f1, upd_at, (upd_ne (by decide)).trans f3, (upd_ne (by decide)).trans f4⟩, ⟨(upd_ne (by decide)).trans h7, upd_at, (upd_ne (by decide)).trans h6, (upd_ne (by decide)).trans h9⟩, ⟨by rw [upd_ne (by decide), upd_ne (by decide)]; exact q5, by rw [upd_ne (by decide), upd_ne (by decide)]; exact q6⟩, fun k hk => ⟨(hs k hk).1, (hs k hk).2.1, (upd_ne (by omega)).trans (hs k hk).2.2⟩⟩
theorem RW.rain {np ns : Nat} {f g h : Nat → Int32} {pr pa we no : Nat} {sg : Nat → Nat} (H : RW np ns f g h pr pa we no sg) (hns : ns ≤ 6) {p : Nat} (hp : p ≤ 9) : RW np ns (upd f 3 (nI p)) g (upd h 6 (nI p)) pr pa p no sg := by
  obtain ⟨⟨b1, b2, b3, b4⟩, ⟨f1, f2, f3, f4⟩, ⟨h7, h8, h6, h9⟩, ⟨q5, q6⟩, hs⟩ := H
  exact ⟨⟨b1, b2, hp, b4⟩, ⟨(upd_ne (by decide)).trans f1, (upd_ne (by decide)).trans f2, upd_at, (upd_ne (by decide)).trans f4⟩, ⟨(upd_ne (by decide)).trans h7, (upd_ne (by decide)).trans h8, upd_at, (upd_ne (by decide)).trans h9⟩, ⟨by rw [upd_ne (by decide), upd_ne (by decide)]; exact q5, by rw [upd_ne (by decide), upd_ne (by decide)]; exact q6⟩, fun k hk => ⟨(hs k hk).1, (hs k hk).2.1, (upd_ne (by omega)).trans (hs k hk).2.2⟩⟩
theorem RW.sinned {np ns : Nat} {f g h : Nat → Int32} {pr pa we no : Nat} {sg : Nat → Nat} (H : RW np ns f g h pr pa we no sg) (hns : ns ≤ 6) {i p : Nat} (hi : i < ns) (hp : p ≤ 99) : RW np ns f (upd g i (nI p)) (upd h i (nI p)) pr pa we no (fun k => if k = i then p else sg k) := by
  obtain ⟨b, fs, ⟨h7, h8, h6, h9⟩, ⟨q5, q6⟩, hs⟩ := H
  refine ⟨b, fs, ⟨(upd_ne (by omega)).trans h7, (upd_ne (by omega)).trans h8, (upd_ne (by omega)).trans h6, (upd_ne (by omega)).trans h9⟩, ⟨by rw [upd_ne (by omega)]; exact q5, by rw [upd_ne (by omega)]; exact q6⟩, fun k hk => ?_⟩
  dsimp only
  by_cases e : k = i
  · subst e
    rw [if_pos rfl, upd_at, upd_at]
    exact ⟨hp, rfl, rfl⟩
  · rw [if_neg e, upd_ne e, upd_ne e]
    exact hs k hk
theorem RW.preached {np ns : Nat} {f g h : Nat → Int32} {pr pa we no : Nat} {sg : Nat → Nat} (H : RW np ns f g h pr pa we no sg) (hns : ns ≤ 6) {p : Nat} (hp : p < 2 ^ np) (x : Int32) : RW np ns (upd (upd f 1 (nI p)) 5 x) g (upd (upd h 7 (nI p)) 10 x) p pa we no sg := by
  obtain ⟨⟨b1, b2, b3, b4⟩, ⟨f1, f2, f3, f4⟩, ⟨h7, h8, h6, h9⟩, ⟨q5, q6⟩, hs⟩ := H
  refine ⟨⟨hp, b2, b3, b4⟩, ⟨?_, ?_, ?_, ?_⟩, ⟨?_, ?_, ?_, ?_⟩, ⟨?_, ?_⟩, fun k hk => ⟨(hs k hk).1, (hs k hk).2.1, ?_⟩⟩
  · rw [upd_ne (by decide), upd_at]
  · rw [upd_ne (by decide), upd_ne (by decide)]; exact f2
  · rw [upd_ne (by decide), upd_ne (by decide)]; exact f3
  · rw [upd_ne (by decide), upd_ne (by decide)]; exact f4
  · rw [upd_ne (by decide), upd_at]
  · rw [upd_ne (by decide), upd_ne (by decide)]; exact h8
  · rw [upd_ne (by decide), upd_ne (by decide)]; exact h6
  · rw [upd_ne (by decide), upd_ne (by decide)]; exact h9
  · rw [upd_at, upd_at]
  · rw [upd_ne (by decide), upd_ne (by decide), upd_ne (by decide), upd_ne (by decide)]; exact q6
  · rw [upd_ne (by omega), upd_ne (by omega)]; exact (hs k hk).2.2
section GL
variable {N : Nat} {mem : zMem} {np ns th bm tw : Nat} {kd wt mn sn : Nat → Nat} {pr pa we no : Nat} {sg : Nat → Nat}
theorem sermon4x (hP : RP mem np ns th bm tw kd wt mn sn) (h3 : mem 11 3 = nI we) (hN : 300 ≤ N) {S : Nat} (hS : S < 256) : f_X4_sermonOf N mem (nI S) = some (nI (smN kd wt np we th S), mem) := by
  unfold f_X4_sermonOf
  rw [h3, zb_of (ozS4 hP hN hS), hP.2.1.2.2.1, nI_add]
  rfl
theorem slS_lex (hs : ∀ k, k < ns → sg k ≤ 99) {C : Nat} : ∀ k, k ≤ ns → slS sg C k ≤ 99 * k := by
  intro k
  induction k with
  | zero => intro _; exact Nat.le_refl _
  | succ k ih =>
    intro hk
    have h1 := ih (by omega)
    have h2 := hs k (by omega)
    unfold slS
    split <;> omega
theorem lead4x_loop (hP : RP mem np ns th bm tw kd wt mn sn) (hpa : pa ≤ 99) (hs : ∀ k, k < ns → sg k ≤ 99) (hg : ∀ k, k < ns → mem 12 k = nI (sg k)) {C : Nat} (hC : C < 256) : ∀ (d n i : Nat), i + d = ns → d < n → f_X4_leadWithout_11 N n mem (nI C) (-nI pa + nI (slS sg C i)) (nI i) = some (nI (slS sg C ns - pa), mem) := by
  have h6 := hP.1.2.1
  have e5 := hP.2.1.2.1
  have hle := slS_lex hs (C := C) ns (Nat.le_refl _)
  intro d
  induction d with
  | zero =>
    intro n i hi hn
    obtain ⟨n, rfl⟩ : ∃ n', n = n' + 1 := ⟨n - 1, by omega⟩
    have : i = ns := by omega
    subst this
    have ex : -nI pa + nI (slS sg C i) = nI (slS sg C i) - nI pa := by rw [Int32.add_comm, ← Int32.sub_eq_add_neg]
    rw [f_X4_leadWithout_11.eq_2, e5, if_pos (nI_le (Nat.le_refl _) (by omega)), ex]
    by_cases h : pa ≤ slS sg C i
    · rw [pk_sub h, if_neg (nI_pos (by omega))]
    · rw [if_pos (pk_sneg (by omega) (by omega)), show slS sg C i - pa = 0 by omega]
      rfl
  | succ d ih =>
    intro n i hi hn
    obtain ⟨n, rfl⟩ : ∃ n', n = n' + 1 := ⟨n - 1, by omega⟩
    have q1 := hg i (by omega)
    have hih := ih n (i + 1) (by omega) (by omega)
    rw [f_X4_leadWithout_11.eq_2, e5, if_neg (nI_ge (by omega) (by omega)), zb_of (isIn_spec hC (by omega)), nI_1]
    rw [slS_s] at hih
    rcases bit_01 C i with h | h
    · rw [h, if_neg (by decide)] at hih
      rw [h, if_pos (show nI 0 = 0 from rfl), zgd_t (zin_nI (by omega) (by omega)), nI_clamp (by omega), q1, Int32.add_assoc, nI_add]
      exact hih
    · rw [h, if_pos rfl, Nat.add_zero] at hih
      rw [h, if_neg (show ¬ nI 1 = 0 by decide)]
      exact hih
theorem leadNow4x (hP : RP mem np ns th bm tw kd wt mn sn) (h2 : mem 11 2 = nI pa) (hpa : pa ≤ 99) (hs : ∀ k, k < ns → sg k ≤ 99) (hg : ∀ k, k < ns → mem 12 k = nI (sg k)) (hN : 300 ≤ N) : f_X4_leadNow N mem = some (nI (ldN sg ns pa), mem) := by
  have h := lead4x_loop (N := N) hP hpa hs hg (C := 0) (by omega) ns N 0 (by omega) (by have := hP.1.2.1; omega)
  have h3 : -nI pa + nI (slS sg 0 0) = -nI pa := by
    show -nI pa + 0 = -nI pa
    rw [Int32.add_zero]
  rw [h3] at h
  have h4 : f_X4_leadWithout N mem (0 : Int32) = some (nI (slS sg 0 ns - pa), mem) := by
    unfold f_X4_leadWithout
    rw [h2]
    exact h
  unfold f_X4_leadNow
  rw [zb_of h4]
  rfl
theorem sermon5x (hP : RP mem np ns th bm tw kd wt mn sn) (h6 : mem 48 6 = nI we) (h7 : mem 48 7 = nI pr) (hpr : pr < 256) (hN : 300 ≤ N) : f_X5_sermon N mem = some (nI (smN kd wt np we th pr), mem) := by
  unfold f_X5_sermon
  rw [show mem 48 (7 : Int32).toNatClampNeg = nI pr from h7, show mem 48 (6 : Int32).toNatClampNeg = nI we from h6, zb_of (ozS5 hP hN hpr), show mem 46 (2 : Int32).toNatClampNeg = nI th from hP.2.2.1.2.2.1, nI_add, Nat.add_comm]
  rfl
theorem lead5x (hP : RP mem np ns th bm tw kd wt mn sn) (hpa : pa ≤ 99) (hs : ∀ k, k < ns → sg k ≤ 99) (h8 : mem 48 8 = nI pa) (hg : ∀ k, k < ns → mem 48 k = nI (sg k)) (hN : 300 ≤ N) : f_X5_lead N mem = some (nI (ldN sg ns pa), mem) := by
  have h6 := hP.1.2.1
  have e5 := hP.2.2.1.2.1
  have hle := slS_lex hs (C := 0) ns (Nat.le_refl _)
  have loop : ∀ (d n i : Nat), i + d = ns → d < n → f_X5_lead_4 N n mem (nI (slS sg 0 i)) (nI i) = some (nI (ldN sg ns pa), mem) := by
    intro d
    induction d with
    | zero =>
      intro n i hi hn
      obtain ⟨n, rfl⟩ : ∃ n', n = n' + 1 := ⟨n - 1, by omega⟩
      have : i = ns := by omega
      subst this
      rw [f_X5_lead_4.eq_2, show mem 46 (1 : Int32).toNatClampNeg = nI i from e5, if_pos (nI_le (Nat.le_refl _) (by omega)), show mem 48 (8 : Int32).toNatClampNeg = nI pa from h8]
      unfold ldN
      by_cases h : slS sg 0 i ≤ pa
      · rw [if_pos (nI_le h (by omega)), show slS sg 0 i - pa = 0 by omega]
        rfl
      · rw [if_neg (nI_ge (by omega) (by omega)), pk_sub (by omega)]
    | succ d ih =>
      intro n i hi hn
      obtain ⟨n, rfl⟩ : ∃ n', n = n' + 1 := ⟨n - 1, by omega⟩
      have hih := ih n (i + 1) (by omega) (by omega)
      rw [slS0] at hih
      rw [f_X5_lead_4.eq_2, show mem 46 (1 : Int32).toNatClampNeg = nI ns from e5, if_neg (nI_ge (by omega) (by omega)), zgd_t (zin_nI (by omega) (by omega)), nI_clamp (by omega), hg i (by omega), nI_1, nI_add]
      exact hih
  exact loop ns N 0 (by omega) (by omega)
theorem level5x (hP : RP mem np ns th bm tw kd wt mn sn) (h6 : mem 48 6 = nI we) (h7 : mem 48 7 = nI pr) (hpr : pr < 256) (hwe : we ≤ 9) (hpa : pa ≤ 99) (hs : ∀ k, k < ns → sg k ≤ 99) (h8 : mem 48 8 = nI pa) (hg : ∀ k, k < ns → mem 48 k = nI (sg k)) (hN : 300 ≤ N) : f_X5_isLevel N mem = some (nI (lvN kd wt sg np ns we th bm pr pa), mem) := by
  have hle := slS_lex hs (C := 0) ns (Nat.le_refl _)
  have hn6 := hP.1.2.1
  have hl : ldN sg ns pa < 2 ^ 20 := by unfold ldN; omega
  unfold f_X5_isLevel
  rw [zb_of (sermon5x hP h6 h7 hpr hN), zb_of (lead5x hP hpa hs h8 hg hN), zb_of (hg5 hP (smN_le hP hwe) hl)]
  unfold lvN
  rcases hg_01 bm (smN kd wt np we th pr) (ldN sg ns pa) with h | h <;> rw [h] <;> rfl
theorem ok_rw {x : Option (Int32 × zMem)} {k : zMem → Option (Int32 × zMem)} (r : Int32) (m1 m2 : zMem) (h1 : x = some (r, m1)) (h2 : k m1 = some (r, m2)) (h3 : RR m2) : okc x k := ⟨r, m1, m2, h1, h2, h3⟩
theorem min99 {a b : Nat} (ha : a < 2 ^ 20) (hb : b < 2 ^ 20) : (if (99 : Int32) < nI a + nI b then (99 : Int32) else nI a + nI b) = nI (if a + b ≤ 99 then a + b else 99) := by
  rw [nI_add]
  by_cases h : a + b ≤ 99
  · rw [if_pos h, if_neg (show ¬ (99 : Int32) < nI (a + b) from nI_nlt (a := 99) h (by omega))]
  · rw [if_neg h, if_pos (show (99 : Int32) < nI (a + b) from nI_lt (a := 99) (by omega) (by omega))]
    rfl
theorem c_ballast (hN : 300 ≤ N) (hR : RR mem) (a : Int32) : okc (f_X4_ballast N mem a) (fun m => f_X5_ballast N m a) := by
  obtain ⟨D, hD⟩ := id hR
  rcases bd 1 20 (by omega) (by omega) a with h | ⟨j, h1, hj, rfl⟩
  · refine ok_ro hR (-3) ?_ ?_
    · unfold f_X4_ballast
      rw [zb_of (show f_X4_isWithin N mem a (1 : Int32) (20 : Int32) = _ from w4_out h)]
      rfl
    · unfold f_X5_ballast
      rw [zb_of (show f_X5_in N mem a (1 : Int32) (20 : Int32) = _ from w5_out h)]
      rfl
  · obtain ⟨pr, pa, we, no, sg, hW⟩ := hD.2.2.1
    obtain ⟨mA, xA, fA, gA⟩ := done_step hN hD
    have b1 : pa ≤ 99 := hW.1.2.1
    have a11 : mA 11 = mem 11 := fA 11 (by decide) (by decide)
    have a12 : mA 12 = mem 12 := fA 12 (by decide) (by decide)
    have a48 : mA 48 = mem 48 := fA 48 (by decide) (by decide)
    have e2 : mA 11 2 = nI pa := by rw [a11]; exact hW.2.1.2.1
    generalize hp : (if pa + j ≤ 99 then pa + j else 99) = p
    have hp9 : p ≤ 99 := by rw [← hp]; split <;> omega
    obtain ⟨mB, xB, fB, gB⟩ := gA (wr mA 11 2 (nI p)) (fun k k1 _ => wr_ne k1)
    have b48 : mB 48 = mem 48 := by rw [fB 48 (by decide) (by decide), wr_ne (by decide), a48]
    have b8 : mB 48 (8 : Int32).toNatClampNeg = nI pa := by rw [b48]; exact hW.2.2.1.2.1
    have fin : RR (wr mB 48 8 (nI p)) := by
      refine gB _ (fun k k1 => wr_ne k1) ⟨pr, p, we, no, sg, ?_⟩
      rw [wr_ne (show 11 ≠ 48 by decide), wr_ne (show 12 ≠ 48 by decide), wr_at, b48, fB 11 (by decide) (by decide), fB 12 (by decide) (by decide), wr_at, wr_ne (show 12 ≠ 11 by decide), a11, a12]
      exact hW.paid hD.1.1.2.1 hp9
    refine ok_rw (nI p) (wr mA 11 2 (nI p)) (wr mB 48 8 (nI p)) ?_ ?_ fin
    · unfold f_X4_ballast
      rw [zb_of (show f_X4_isWithin N mem (nI j) (1 : Int32) (20 : Int32) = _ from wn4 (lo := 1) (hi := 20) (by omega) (by omega) (by omega)), if_pos (show 1 ≤ j ∧ j ≤ 20 by omega), if_neg (by decide), zb_of xA, e2, min99 (by omega) (by omega), hp, zlet_e, wr_at, upd_at]
    · unfold f_X5_ballast
      rw [zb_of (show f_X5_in N _ (nI j) (1 : Int32) (20 : Int32) = _ from wn5 (lo := 1) (hi := 20) (by omega) (by omega) (by omega)), if_pos (show 1 ≤ j ∧ j ≤ 20 by omega), if_neg (by decide), zb_of xB, b8, nI_add]
      by_cases c : pa + j ≤ 99
      · rw [if_pos (show nI (pa + j) ≤ (99 : Int32) from nI_le (b := 99) c (by omega)), zlet_e, ← hp, if_pos c, wr_at]
        exact congrArg (fun z => some (z, wr mB 48 8 (nI (pa + j)))) upd_at
      · rw [if_neg (show ¬ nI (pa + j) ≤ (99 : Int32) from nI_ge (a := 99) (by omega) (by omega)), zlet_e, ← hp, if_neg c, wr_at]
        exact congrArg (fun z => some (z, wr mB 48 8 (nI 99))) upd_at
theorem c_rain (hN : 300 ≤ N) (hR : RR mem) (a : Int32) : okc (f_X4_rain N mem a) (fun m => f_X5_rain N m a) := by
  obtain ⟨D, hD⟩ := id hR
  rcases bd 0 9 (by omega) (by omega) a with h | ⟨p, h1, hp9, rfl⟩
  · refine ok_ro hR (-3) ?_ ?_
    · unfold f_X4_rain
      rw [zb_of (show f_X4_isWithin N mem a (0 : Int32) (9 : Int32) = _ from w4_out h)]
      rfl
    · unfold f_X5_rain
      rw [zb_of (show f_X5_in N mem a (0 : Int32) (9 : Int32) = _ from w5_out h)]
      rfl
  · obtain ⟨pr, pa, we, no, sg, hW⟩ := hD.2.2.1
    obtain ⟨mA, xA, fA, gA⟩ := done_step hN hD
    have a11 : mA 11 = mem 11 := fA 11 (by decide) (by decide)
    have a12 : mA 12 = mem 12 := fA 12 (by decide) (by decide)
    have a48 : mA 48 = mem 48 := fA 48 (by decide) (by decide)
    have e3 : mA 11 3 = nI we := by rw [a11]; exact hW.2.1.2.2.1
    obtain ⟨mB, xB, fB, gB⟩ := gA (wr mA 11 3 (nI p)) (fun k k1 _ => wr_ne k1)
    have b48 : mB 48 = mem 48 := by rw [fB 48 (by decide) (by decide), wr_ne (by decide), a48]
    have b6 : mB 48 (6 : Int32).toNatClampNeg = nI we := by rw [b48]; exact hW.2.2.1.2.2.1
    have fin : RR (wr mB 48 6 (nI p)) := by
      refine gB _ (fun k k1 => wr_ne k1) ⟨pr, pa, p, no, sg, ?_⟩
      rw [wr_ne (show 11 ≠ 48 by decide), wr_ne (show 12 ≠ 48 by decide), wr_at, b48, fB 11 (by decide) (by decide), fB 12 (by decide) (by decide), wr_at, wr_ne (show 12 ≠ 11 by decide), a11, a12]
      exact hW.rain hD.1.1.2.1 hp9
    refine ok_rw (nI we) (wr mA 11 3 (nI p)) (wr mB 48 6 (nI p)) ?_ ?_ fin
    · unfold f_X4_rain
      rw [zb_of (show f_X4_isWithin N mem (nI p) (0 : Int32) (9 : Int32) = _ from wn4 (lo := 0) (hi := 9) (by omega) (by omega) (by omega)), if_pos (show 0 ≤ p ∧ p ≤ 9 by omega), if_neg (by decide), zb_of xA, e3, zlet_e]
    · unfold f_X5_rain
      rw [zb_of (show f_X5_in N _ (nI p) (0 : Int32) (9 : Int32) = _ from wn5 (lo := 0) (hi := 9) (by omega) (by omega) (by omega)), if_pos (show 0 ≤ p ∧ p ≤ 9 by omega), if_neg (by decide), zb_of xB, b6]
      rfl
theorem c_sin (hN : 300 ≤ N) (hR : RR mem) (a b : Int32) : okc (f_X4_sin N mem a b) (fun m => f_X5_sin N m a b) := by
  obtain ⟨D, hD⟩ := id hR
  have hP := hD.rp
  have h6 := hP.1.2.1
  rcases dm (D 1) (by omega) a with h | ⟨i, hi, rfl⟩
  · refine ok_ro hR (-2) ?_ ?_
    · unfold f_X4_sin
      rw [zb_of (soul_no hP h).1]
      rfl
    · unfold f_X5_sin
      rw [zb_of (soul_no hP h).2]
      rfl
  rcases bd 1 20 (by omega) (by omega) b with h | ⟨j, h1, hj, rfl⟩
  · refine ok_ro hR (-3) ?_ ?_
    · unfold f_X4_sin
      rw [zb_of (soul_yes hP hi).1, if_neg (by decide), zb_of (show f_X4_isWithin N mem b (1 : Int32) (20 : Int32) = _ from w4_out h)]
      rfl
    · unfold f_X5_sin
      rw [zb_of (soul_yes hP hi).2, if_neg (by decide), zb_of (show f_X5_in N mem b (1 : Int32) (20 : Int32) = _ from w5_out h)]
      rfl
  · obtain ⟨pr, pa, we, no, sg, hW⟩ := hD.2.2.1
    obtain ⟨s1, s2, s3⟩ := hW.2.2.2.2 i hi
    obtain ⟨mA, xA, fA, gA⟩ := done_step hN hD
    have a11 : mA 11 = mem 11 := fA 11 (by decide) (by decide)
    have a12 : mA 12 = mem 12 := fA 12 (by decide) (by decide)
    have a48 : mA 48 = mem 48 := fA 48 (by decide) (by decide)
    have a46 : mA 46 = mem 46 := fA 46 (by decide) (by decide)
    have e2 : mA 12 i = nI (sg i) := by rw [a12]; exact s2
    generalize hp : (if sg i + j ≤ 99 then sg i + j else 99) = p
    have hp9 : p ≤ 99 := by rw [← hp]; split <;> omega
    obtain ⟨mB, xB, fB, gB⟩ := gA (wr mA 12 i (nI p)) (fun k _ k1 => wr_ne k1)
    have b48 : mB 48 = mem 48 := by rw [fB 48 (by decide) (by decide), wr_ne (by decide), a48]
    have b8 : mB 48 i = nI (sg i) := by rw [b48]; exact s3
    have z6 : zin (nI i) 6 = true := zin_nI (by omega) (by omega)
    have z12 : zin (nI i) 12 = true := zin_nI (by omega) (by omega)
    have fin : RR (wr mB 48 i (nI p)) := by
      refine gB _ (fun k k1 => wr_ne k1) ⟨pr, pa, we, no, (fun k => if k = i then p else sg k), ?_⟩
      rw [wr_ne (show 11 ≠ 48 by decide), wr_ne (show 12 ≠ 48 by decide), wr_at, b48, fB 11 (by decide) (by decide), fB 12 (by decide) (by decide), wr_at, wr_ne (show 11 ≠ 12 by decide), a11, a12]
      exact hW.sinned hD.1.1.2.1 hi hp9
    have y46 : (wr mA 12 i (nI p)) 46 (1 : Int32).toNatClampNeg = nI (D 1) := by rw [wr_ne (by decide), a46]; exact hP.2.2.1.2.1
    refine ok_rw (nI p) (wr mA 12 i (nI p)) (wr mB 48 i (nI p)) ?_ ?_ fin
    · unfold f_X4_sin
      rw [zb_of (soul_yes hP hi).1, if_neg (by decide), zb_of (show f_X4_isWithin N mem (nI j) (1 : Int32) (20 : Int32) = _ from wn4 (lo := 1) (hi := 20) (by omega) (by omega) (by omega)), if_pos (show 1 ≤ j ∧ j ≤ 20 by omega), if_neg (by decide), zb_of xA, zgd_t z6, zgd_t z6, nI_clamp (by omega), e2, min99 (by omega) (by omega), hp, zlet_e, zgd_t z6, wr_at, upd_at]
    · unfold f_X5_sin
      rw [y46, zb_of (in5_yes (by omega) hi), if_neg (by decide), zb_of (show f_X5_in N _ (nI j) (1 : Int32) (20 : Int32) = _ from wn5 (lo := 1) (hi := 20) (by omega) (by omega) (by omega)), if_pos (show 1 ≤ j ∧ j ≤ 20 by omega), if_neg (by decide), zb_of xB, zgd_t z12, nI_clamp (by omega), b8, nI_add]
      by_cases c : sg i + j ≤ 99
      · rw [if_pos (show nI (sg i + j) ≤ (99 : Int32) from nI_le (b := 99) c (by omega)), zgd_t z12, zgd_t z12, zlet_e, zgd_t z12, ← hp, if_pos c, wr_at, upd_at]
      · rw [if_neg (show ¬ nI (sg i + j) ≤ (99 : Int32) from nI_ge (a := 99) (by omega) (by omega)), zgd_t z12, zlet_e, zgd_t z12, ← hp, if_neg c, wr_at, upd_at]
        rfl
theorem c_preach (hN : 300 ≤ N) (hR : RR mem) (a : Int32) : okc (f_X4_preach N mem a) (fun m => f_X5_preach N m a) := by
  obtain ⟨D, hD⟩ := id hR
  have hP := hD.rp
  have h8 := hP.1.1
  rcases dm (D 0) (by omega) a with h | ⟨i, hi, rfl⟩
  · refine ok_ro hR (-2) ?_ ?_
    · unfold f_X4_preach
      rw [zb_of (part_no hP h).1]
      rfl
    · unfold f_X5_preach
      rw [zb_of (part_no hP h).2]
      rfl
  obtain ⟨pr, pa, we, no, sg, hW⟩ := hD.2.2.1
  have hpr := pr_256 hP hW.1.1
  have i4 := isIn_spec (N := N) (mem := mem) (S := pr) (k := i) hpr (by omega)
  have i5 := bit_e (S := pr) (k := i) hpr (by omega)
  have w1 : mem 11 1 = nI pr := hW.2.1.1
  have h7 : mem 48 (7 : Int32).toNatClampNeg = nI pr := hW.2.2.1.1
  rcases bit_01 pr i with e | e
  · have v4 := level4 (N := N) (mem := mem) hP hW hN
    have v5 := level5 (N := N) (mem := mem) hP hW hN
    have lv01 := hg_01 (D 3) (smN (fun k => D (5 + k)) (fun k => D (13 + k)) (D 0) we (D 2) pr) (ldN sg (D 1) pa)
    have lve : lvN (fun k => D (5 + k)) (fun k => D (13 + k)) sg (D 0) (D 1) we (D 2) (D 3) pr pa = hg (D 3) (smN (fun k => D (5 + k)) (fun k => D (13 + k)) (D 0) we (D 2) pr) (ldN sg (D 1) pa) := rfl
    rcases lv01 with l | l
    · obtain ⟨k1, k2, k3, q1, q2, q3, q4, q5, q6⟩ := hD.part hi
      obtain ⟨mA, xA, fA, gA⟩ := done_step hN hD
      have a11 : mA 11 = mem 11 := fA 11 (by decide) (by decide)
      have a12 : mA 12 = mem 12 := fA 12 (by decide) (by decide)
      have a48 : mA 48 = mem 48 := fA 48 (by decide) (by decide)
      have a46 : mA 46 = mem 46 := fA 46 (by decide) (by decide)
      have a9 : mA 9 = mem 9 := fA 9 (by decide) (by decide)
      generalize hp : pr ||| 2 ^ i = p
      have hi2 : 2 ^ i < 2 ^ D 0 := Nat.pow_lt_pow_right (by omega) hi
      have hp9 : p < 2 ^ D 0 := by rw [← hp]; exact Nat.or_lt_two_pow hW.1.1 hi2
      have hp256 := pr_256 hP hp9
      have eor : nI pr ||| ((1 : Int32) <<< (nI i &&& 31)) = nI p := by rw [sh_e (by omega), nI_or, hp]
      generalize hx : mem 11 5 + nI (D (21 + i)) = x
      have hm1 : ∀ k, k ≠ 11 → k ≠ 12 → wr (wr mA 11 1 (nI p)) 11 5 x k = mA k := fun k k1 _ => by rw [wr_ne k1, wr_ne k1]
      obtain ⟨mB, xB, fB, gB⟩ := gA (wr (wr mA 11 1 (nI p)) 11 5 x) hm1
      have m11 : wr (wr mA 11 1 (nI p)) 11 5 x 11 = upd (upd (mem 11) 1 (nI p)) 5 x := by rw [wr_at, wr_at, a11]
      have b48 : mB 48 = mem 48 := by rw [fB 48 (by decide) (by decide), hm1 48 (by decide) (by decide), a48]
      have b46 : mB 46 = mem 46 := by rw [fB 46 (by decide) (by decide), hm1 46 (by decide) (by decide), a46]
      have b7 : mB 48 (7 : Int32).toNatClampNeg = nI pr := by rw [b48]; exact h7
      have hNew := hW.preached hD.1.1.2.1 hp9 x
      have f2 : ∀ k, k ≠ 48 → wr (wr mB 48 7 (nI p)) 48 10 x k = mB k := fun k k1 => by rw [wr_ne k1, wr_ne k1]
      have n11 : wr (wr mB 48 7 (nI p)) 48 10 x 11 = upd (upd (mem 11) 1 (nI p)) 5 x := by rw [f2 11 (by decide), fB 11 (by decide) (by decide), m11]
      have n12 : wr (wr mB 48 7 (nI p)) 48 10 x 12 = mem 12 := by rw [f2 12 (by decide), fB 12 (by decide) (by decide), wr_ne (by decide), wr_ne (by decide), a12]
      have n48 : wr (wr mB 48 7 (nI p)) 48 10 x 48 = upd (upd (mem 48) 7 (nI p)) 10 x := by rw [wr_at, wr_at, b48]
      have hWn : RNow (wr (wr mB 48 7 (nI p)) 48 10 x) (D 0) (D 1) p pa we no sg := by
        unfold RNow
        rw [n11, n12, n48]
        exact hNew
      have fin : RR (wr (wr mB 48 7 (nI p)) 48 10 x) := gB _ f2 ⟨p, pa, we, no, sg, hWn⟩
      have hP1 : RP (wr (wr mA 11 1 (nI p)) 11 5 x) (D 0) (D 1) (D 2) (D 3) (D 4) (fun k => D (5 + k)) (fun k => D (13 + k)) (fun k => D (21 + k)) (fun k => D (29 + k)) := RP_of hD.1 (hD.2.1.1.fr (fun k a b => by rw [hm1 k (by omega) (by omega), fA k (by omega) (by omega)])) (by rw [hm1 46 (by decide) (by decide), a46]; exact hD.2.1.2)
      have hP2 : RP (wr (wr mB 48 7 (nI p)) 48 10 x) (D 0) (D 1) (D 2) (D 3) (D 4) (fun k => D (5 + k)) (fun k => D (13 + k)) (fun k => D (21 + k)) (fun k => D (29 + k)) := RP_of hD.1 (hD.2.1.1.fr (fun k a b => by rw [f2 k (by omega), fB k (by omega) (by omega), hm1 k (by omega) (by omega), fA k (by omega) (by omega)])) (by rw [f2 46 (by decide), b46]; exact hD.2.1.2)
      have s4 := sermon4x (N := N) hP1 (show wr (wr mA 11 1 (nI p)) 11 5 x 11 3 = nI we by rw [m11]; exact hNew.2.1.2.2.1) hN hp256
      have l4 := leadNow4x (N := N) (pa := pa) (sg := sg) hP1 (show wr (wr mA 11 1 (nI p)) 11 5 x 11 2 = nI pa by rw [m11]; exact hNew.2.1.2.1) hW.1.2.1 (fun k hk => (hW.2.2.2.2 k hk).1) (fun k hk => by rw [wr_ne (by decide), wr_ne (by decide), a12]; exact (hW.2.2.2.2 k hk).2.1) hN
      have s5 := sermon5 (N := N) hP2 hWn hN
      have l5 := lead5 (N := N) hP2 hWn hN
      have pa1 : (wr (wr mA 11 1 (nI p)) 11 5 x) 46 (0 : Int32).toNatClampNeg = nI (D 0) := hP1.2.2.1.1
      refine ok_rw (nI (smN (fun k => D (5 + k)) (fun k => D (13 + k)) (D 0) we (D 2) p) - nI (ldN sg (D 1) pa) + 9999) (wr (wr mA 11 1 (nI p)) 11 5 x) (wr (wr mB 48 7 (nI p)) 48 10 x) ?_ ?_ fin
      · unfold f_X4_preach
        rw [zb_of (part_yes hP hi).1, if_neg (by decide), w1, zb_of i4, e, if_pos (show nI 0 = 0 from rfl), zb_of v4, lve, l, if_pos (show nI 0 = 0 from rfl), zb_of xA, a11, w1, eor, zlet_e, zgd_t (zin_nI (by omega) (by omega)), nI_clamp (by omega), show wr mA 11 1 (nI p) 11 5 = mem 11 5 by rw [wr_at, upd_ne (by decide), a11], show wr mA 11 1 (nI p) 9 i = nI (D (21 + i)) by rw [wr_ne (by decide), a9]; exact q3, hx, zlet_e, show wr (wr mA 11 1 (nI p)) 11 5 x 11 1 = nI p by rw [m11, upd_ne (by decide), upd_at], zb_of s4, zb_of l4]
      · have e48 : (wr (wr mA 11 1 (nI p)) 11 5 x) 48 = mem 48 := by rw [hm1 48 (by decide) (by decide), a48]
        have v5x := level5x (N := N) (we := we) (pr := pr) (pa := pa) (sg := sg) hP1 (by rw [e48]; exact hW.2.2.1.2.2.1) (by rw [e48]; exact hW.2.2.1.1) hpr hW.1.2.2.1 hW.1.2.1 (fun k hk => (hW.2.2.2.2 k hk).1) (by rw [e48]; exact hW.2.2.1.2.1) (fun k hk => by rw [e48]; exact (hW.2.2.2.2 k hk).2.2) hN
        have c7 : (wr (wr mA 11 1 (nI p)) 11 5 x) 48 (7 : Int32).toNatClampNeg = nI pr := by rw [e48]; exact h7
        have c10 : (wr mB 48 (7 : Int32).toNatClampNeg (nI p)) 48 (10 : Int32).toNatClampNeg = mem 48 10 := by rw [wr_at, b48]; exact upd_ne (show 10 ≠ 7 by decide)
        have c46 : (wr mB 48 (7 : Int32).toNatClampNeg (nI p)) 46 (21 + i) = nI (D (21 + i)) := by rw [wr_ne (show 46 ≠ 48 by decide), b46]; exact q6
        have hx2 : mem 48 10 + nI (D (21 + i)) = x := by rw [← hx, hW.2.2.2.1.1]
        unfold f_X5_preach
        rw [zb_of (part_yes hP1 hi).2, if_neg (by decide), c7, i5, e, if_neg (show ¬ nI 0 = 1 by decide), zb_of v5x, lve, l, if_pos (show nI 0 = 0 from rfl), zb_of xB, b7, eor, zlet_e, show (21 : Int32) + nI i = nI (21 + i) from nI_add 21 i, zgd_t (zin_nI (by omega) (by omega)), nI_clamp (by omega), c10, c46, hx2, zlet_e]
        refine (zb_of s5).trans ?_
        rw [zb_of l5]
        refine congrArg (fun z => some (z, wr (wr mB 48 7 (nI p)) 48 10 x)) ?_
        rw [Int32.sub_eq_add_neg, Int32.sub_eq_add_neg, Int32.add_assoc, Int32.add_comm]
    · refine ok_ro hR (-4) ?_ ?_
      · unfold f_X4_preach
        rw [zb_of (part_yes hP hi).1, if_neg (by decide), w1, zb_of i4, e, if_pos (show nI 0 = 0 from rfl), zb_of v4, lve, l, if_neg (show ¬ nI 1 = 0 by decide)]
      · unfold f_X5_preach
        rw [zb_of (part_yes hP hi).2, if_neg (by decide), h7, i5, e, if_neg (show ¬ nI 0 = 1 by decide), zb_of v5, lve, l, if_neg (show ¬ nI 1 = 0 by decide)]
  · refine ok_ro hR (-4) ?_ ?_
    · unfold f_X4_preach
      rw [zb_of (part_yes hP hi).1, if_neg (by decide), w1, zb_of i4, e, if_neg (show ¬ nI 1 = 0 by decide)]
    · unfold f_X5_preach
      rw [zb_of (part_yes hP hi).2, if_neg (by decide), h7, i5, e, if_pos (show nI 1 = 1 from rfl)]
end GL
