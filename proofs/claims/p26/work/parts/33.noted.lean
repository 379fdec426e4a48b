/-! WHAT IS TOLD AND NOTED: write, erase, fault, kirk; seen, heard, forget -/
section GN
variable {N : Nat} {mem : zMem}
theorem c_write (hR : RR mem) (a : Int32) : okc (f_X4_write N mem a) (fun m => f_X5_write N m a) := by
  obtain ⟨D, hD⟩ := id hR
  rcases bd 0 255 (by omega) (by omega) a with h | ⟨j, -, hj, rfl⟩
  · refine ok_ro hR (-3) ?_ ?_
    · unfold f_X4_write
      rw [zb_of (show f_X4_isWithin N mem a (0 : Int32) (255 : Int32) = _ from w4_out h)]
      rfl
    · unfold f_X5_write
      rw [zb_of (show f_X5_in N mem a (0 : Int32) (255 : Int32) = _ from w5_out h)]
      rfl
  · obtain ⟨hB, ⟨hC, hRr⟩, hW, hU, hK, hS, hH, n, T, hTc, hTm⟩ := hD
    have hn := hTc.1
    have i4 : ∀ m, f_X4_isWithin N m (nI j) (0 : Int32) (255 : Int32) = some (1, m) := fun m => (wn4 (lo := 0) (hi := 255) (by omega) (by omega) (by omega)).trans (by rw [if_pos (show 0 ≤ j ∧ j ≤ 255 by omega)])
    have i5 : ∀ m, f_X5_in N m (nI j) (0 : Int32) (255 : Int32) = some (1, m) := fun m => (wn5 (lo := 0) (hi := 255) (by omega) (by omega) (by omega)).trans (by rw [if_pos (show 0 ≤ j ∧ j ≤ 255 by omega)])
    have e1 : mem 1 4 = nI n := hTc.2.1
    have e44 : mem 44 1 = nI n := hTm.2.1
    by_cases c : n < 160
    · generalize hm1 : wr (wr mem 2 n (nI j)) 1 4 (nI (n + 1)) = m1
      have f1 : ∀ k, k ≠ 1 → k ≠ 2 → m1 k = mem k := fun k k1 k2 => by rw [← hm1, wr_ne k1, wr_ne k2]
      have m12 : m1 2 = upd (mem 2) n (nI j) := by rw [← hm1, wr_ne (by decide), wr_at]
      have m14 : m1 1 4 = nI (n + 1) := by rw [← hm1, wr_at, upd_at]
      generalize hm2 : wr (wr m1 45 n (nI j)) 44 1 (nI (n + 1)) = m2
      have f2 : ∀ k, k ≠ 44 → k ≠ 45 → m2 k = m1 k := fun k k1 k2 => by rw [← hm2, wr_ne k1, wr_ne k2]
      have f : ∀ k, k ≠ 1 → k ≠ 2 → k ≠ 44 → k ≠ 45 → m2 k = mem k := fun k k1 k2 k3 k4 => by rw [f2 k k3 k4, f1 k k1 k2]
      have f44 : ∀ q, q ≠ 1 → m2 44 q = mem 44 q := fun q hq => by rw [← hm2, wr_at, upd_ne hq, wr_ne (by decide), f1 44 (by decide) (by decide)]
      have fin : RR m2 := by
        refine ⟨D, hB, ⟨hC.fr (fun k a b => f k (by omega) (by omega) (by omega) (by omega)), by rw [f 46 (by decide) (by decide) (by decide) (by decide)]; exact hRr⟩, by rw [f 11 (by decide) (by decide) (by decide) (by decide), f 12 (by decide) (by decide) (by decide) (by decide), f 48 (by decide) (by decide) (by decide) (by decide)]; exact hW, hU.fr (by rw [f 0 (by decide) (by decide) (by decide) (by decide)]) (by rw [f 0 (by decide) (by decide) (by decide) (by decide)]) (f44 6 (by decide)) (fun k a b => f k (by omega) (by omega) (by omega) (by omega)) (f 49 (by decide) (by decide) (by decide) (by decide)), hK.fr (fun k a b => f k (by omega) (by omega) (by omega) (by omega)) (f 50 (by decide) (by decide) (by decide) (by decide)) (f 51 (by decide) (by decide) (by decide) (by decide)), hS.fr (by rw [f 36 (by decide) (by decide) (by decide) (by decide)]) (f44 10 (by decide)) (fun k a b => f k (by omega) (by omega) (by omega) (by omega)) (f 52 (by decide) (by decide) (by decide) (by decide)), hH.fr (by rw [f 36 (by decide) (by decide) (by decide) (by decide)]) (f44 12 (by decide)) (fun k a b => f k (by omega) (by omega) (by omega) (by omega)) (f 53 (by decide) (by decide) (by decide) (by decide)), n + 1, fun i => if i = n then j else T i, ⟨by omega, by rw [f2 1 (by decide) (by decide)]; exact m14, fun i hi => ?_⟩, ⟨by omega, by rw [← hm2, wr_at, upd_at], fun i hi => ?_⟩⟩
        · rw [f2 2 (by decide) (by decide), m12]
          dsimp only
          by_cases e : i = n
          · subst e
            rw [if_pos rfl, upd_at]
            exact ⟨hj, rfl⟩
          · rw [if_neg e, upd_ne e]
            exact hTc.2.2 i (by omega)
        · rw [← hm2, wr_ne (by decide), wr_at, f1 45 (by decide) (by decide)]
          dsimp only
          by_cases e : i = n
          · subst e
            rw [if_pos rfl, upd_at]
            exact ⟨hj, rfl⟩
          · rw [if_neg e, upd_ne e]
            exact hTm.2.2 i (by omega)
      refine ok_rw (nI (n + 1)) m1 m2 ?_ ?_ fin
      · unfold f_X4_write f_X2_add
        rw [zb_of (i4 mem), if_neg (by decide), e1, if_pos (show nI n < (160 : Int32) from nI_lt (b := 160) c (by omega)), zgd_t (zin_nI c (by omega)), nI_clamp (by omega), zlet_e, show wr mem 2 n (nI j) 1 4 = nI n by rw [wr_ne (by decide), e1], nI_1, zlet_e, hm1]
        rw [show zb (some ((1 : Int32), m1)) (fun r201 mem201 => if r201 = 0 then some ((-5 : Int32), mem201) else some ((mem201 1 4), mem201)) = some (m1 1 4, m1) from rfl, m14]
      · unfold f_X5_write
        rw [zb_of (i5 m1), if_neg (by decide), f1 44 (by decide) (by decide), e44, if_neg (show ¬ nI n = (160 : Int32) from fun z => by have := (nI_eq (by omega) (by omega)).mp (show nI n = nI 160 from z); omega), zgd_t (zin_nI c (by omega)), nI_clamp (by omega), zlet_e, show wr m1 45 n (nI j) 44 1 = nI n by rw [wr_ne (by decide), f1 44 (by decide) (by decide), e44], nI_1, zlet_e, hm2, show m2 44 1 = nI (n + 1) by rw [← hm2, wr_at, upd_at]]
    · obtain rfl : n = 160 := by omega
      refine ok_ro hR (-5) ?_ ?_
      · unfold f_X4_write f_X2_add
        rw [zb_of (i4 mem), if_neg (by decide), e1, if_neg (by decide)]
        rfl
      · unfold f_X5_write
        rw [zb_of (i5 mem), if_neg (by decide), e44, if_pos (by decide)]
theorem c_erase (hR : RR mem) : okc (f_X4_erase N mem) (fun m => f_X5_erase N m) := by
  obtain ⟨D, hB, ⟨hC, hRr⟩, hW, hU, hK, hS, hH, n, T, hTc, hTm⟩ := hR
  have e1 : mem 1 4 = nI n := hTc.2.1
  have e44 : mem 44 1 = nI n := hTm.2.1
  generalize hm2 : wr (wr mem 1 4 0) 44 1 0 = m2
  have f : ∀ k, k ≠ 1 → k ≠ 44 → m2 k = mem k := fun k k1 k2 => by rw [← hm2, wr_ne k2, wr_ne k1]
  have f44 : ∀ q, q ≠ 1 → m2 44 q = mem 44 q := fun q hq => by rw [← hm2, wr_at, upd_ne hq, wr_ne (by decide)]
  have fin : RR m2 := ⟨D, hB, ⟨hC.fr (fun k a b => f k (by omega) (by omega)), by rw [f 46 (by decide) (by decide)]; exact hRr⟩, by rw [f 11 (by decide) (by decide), f 12 (by decide) (by decide), f 48 (by decide) (by decide)]; exact hW, hU.fr (by rw [f 0 (by decide) (by decide)]) (by rw [f 0 (by decide) (by decide)]) (f44 6 (by decide)) (fun k a b => f k (by omega) (by omega)) (f 49 (by decide) (by decide)), hK.fr (fun k a b => f k (by omega) (by omega)) (f 50 (by decide) (by decide)) (f 51 (by decide) (by decide)), hS.fr (by rw [f 36 (by decide) (by decide)]) (f44 10 (by decide)) (fun k a b => f k (by omega) (by omega)) (f 52 (by decide) (by decide)), hH.fr (by rw [f 36 (by decide) (by decide)]) (f44 12 (by decide)) (fun k a b => f k (by omega) (by omega)) (f 53 (by decide) (by decide)), 0, T, ⟨by omega, by rw [← hm2, wr_ne (by decide), wr_at, upd_at]; rfl, fun i hi => absurd hi (Nat.not_lt_zero i)⟩, ⟨by omega, by rw [← hm2, wr_at, upd_at]; rfl, fun i hi => absurd hi (Nat.not_lt_zero i)⟩⟩
  refine ok_rw (nI n) (wr mem 1 4 0) m2 ?_ ?_ fin
  · unfold f_X4_erase
    rw [zlet_e, e1]
  · unfold f_X5_erase
    rw [zlet_e, hm2, wr_ne (by decide), e44]
theorem noted_step {D : Nat → Nat} {mem m2 : zMem} (hD : RD D mem) (h1 : ∀ k, k < 36 → m2 k = mem k) (h2 : ∀ k, 44 < k → k < 52 → m2 k = mem k) (h44 : ∀ j, j ≠ 10 → j ≠ 12 → m2 44 j = mem 44 j) (hS : RNe m2 (D 0)) (hH : RHe m2 (D 0)) : RR m2 := by
  obtain ⟨hB, ⟨hC, hR⟩, hW, hU, hK, -, -, hT⟩ := hD
  exact ⟨D, hB, ⟨hC.fr (fun k a b => h1 k (by omega)), by rw [h2 46 (by omega) (by omega)]; exact hR⟩, by rw [h1 11 (by omega), h1 12 (by omega), h2 48 (by omega) (by omega)]; exact hW, hU.fr (by rw [h1 0 (by omega)]) (by rw [h1 0 (by omega)]) (h44 6 (by decide) (by decide)) (fun k a b => h1 k (by omega)) (h2 49 (by omega) (by omega)), hK.fr (fun k a b => h1 k (by omega)) (h2 50 (by omega) (by omega)) (h2 51 (by omega) (by omega)), hS, hH, hT.fr (by rw [h1 1 (by omega)]) (h44 1 (by decide) (by decide)) (h1 2 (by omega)) (h2 45 (by omega) (by omega))⟩
theorem c_forget (hR : RR mem) : okc (f_X4_forget N mem) (fun m => f_X5_forget N m) := by
  obtain ⟨D, hD⟩ := id hR
  obtain ⟨a, s, w, hS⟩ := hD.2.2.2.2.2.1
  obtain ⟨b, s', v, u, lv, hH⟩ := hD.2.2.2.2.2.2.1
  generalize hm1 : wr (wr mem 36 7 0) 36 8 0 = m1
  have f1 : ∀ k, k ≠ 36 → m1 k = mem k := fun k k1 => by rw [← hm1, wr_ne k1, wr_ne k1]
  generalize hm2 : wr (wr m1 44 10 0) 44 12 0 = m2
  have f2 : ∀ k, k ≠ 44 → m2 k = m1 k := fun k k1 => by rw [← hm2, wr_ne k1, wr_ne k1]
  have fin : RR m2 := by
    refine noted_step hD (fun k hk => by rw [f2 k (by omega), f1 k (by omega)]) (fun k k1 k2 => by rw [f2 k (by omega), f1 k (by omega)]) (fun j j1 j2 => by rw [← hm2, wr_at, upd_ne j2, wr_at, upd_ne j1, f1 44 (by decide)]) ⟨0, s, w, by omega, ?_, ?_, fun i hi => absurd hi (Nat.not_lt_zero i)⟩ ⟨0, s', v, u, lv, by omega, ?_, ?_, fun i hi => absurd hi (Nat.not_lt_zero i)⟩
    · rw [f2 36 (by decide), ← hm1, wr_at, upd_ne (by decide), wr_at, upd_at]; rfl
    · rw [← hm2, wr_at, upd_ne (by decide), wr_at, upd_at]; rfl
    · rw [f2 36 (by decide), ← hm1, wr_at, upd_at]; rfl
    · rw [← hm2, wr_at, upd_at]; rfl
  refine ok_rw (nI a + nI b) m1 m2 ?_ ?_ fin
  · unfold f_X4_forget f_X0_clear
    rw [zlet_e, zlet_e, hm1, hS.2.1, hH.2.1]
    rfl
  · unfold f_X5_forget
    rw [zlet_e, zlet_e, hm2, f1 44 (by decide), hS.2.2.1, hH.2.2.1]
theorem c_seen (hR : RR mem) (a b c : Int32) : okc (f_X4_seen N mem a b c) (fun m => f_X5_seen N m a b c) := by
  obtain ⟨D, hD⟩ := id hR
  have hP := hD.rp
  have h8 := hP.1.1
  have hp := pow_256 h8
  rcases dm (2 ^ D 0) (by omega) a with h | ⟨S, hS', rfl⟩
  · refine ok_ro hR (-2) ?_ ?_
    · unfold f_X4_seen
      rw [zb_of (set_no hP h).1]
      rfl
    · unfold f_X5_seen
      rw [zb_of (set_no hP h).2]
      rfl
  rcases bd 0 9 (by omega) (by omega) b with h | ⟨w0, -, hw0, rfl⟩
  · refine ok_ro hR (-3) ?_ ?_
    · unfold f_X4_seen
      rw [zb_of (set_yes hP hS').1, if_neg (by decide), zb_of (show f_X4_isWithin N mem b (0 : Int32) (9 : Int32) = _ from w4_out h)]
      rfl
    · unfold f_X5_seen
      rw [zb_of (set_yes hP hS').2, if_neg (by decide), zb_of (show f_X5_in N mem b (0 : Int32) (9 : Int32) = _ from w5_out h)]
      rfl
  have i4 : ∀ m, f_X4_isWithin N m (nI w0) (0 : Int32) (9 : Int32) = some (1, m) := fun m => (wn4 (lo := 0) (hi := 9) (by omega) (by omega) (by omega)).trans (by rw [if_pos (show 0 ≤ w0 ∧ w0 ≤ 9 by omega)])
  have i5 : ∀ m, f_X5_in N m (nI w0) (0 : Int32) (9 : Int32) = some (1, m) := fun m => (wn5 (lo := 0) (hi := 9) (by omega) (by omega) (by omega)).trans (by rw [if_pos (show 0 ≤ w0 ∧ w0 ≤ 9 by omega)])
  by_cases hc : c < 0 ∨ 255 < c
  · refine ok_ro hR (-3) ?_ ?_
    · unfold f_X4_seen
      rw [zb_of (set_yes hP hS').1, if_neg (by decide), zb_of (i4 mem), if_neg (by decide), zb_of (w4_out hc)]
      rfl
    · unfold f_X5_seen
      rw [zb_of (set_yes hP hS').2, if_neg (by decide), zb_of (i5 mem), if_neg (by decide), zb_of (w5_out hc)]
      rfl
  obtain ⟨n, s, w, hS⟩ := hD.2.2.2.2.2.1
  have hn := hS.1
  have e36 : mem 36 7 = nI n := hS.2.1
  have e44 : mem 44 10 = nI n := hS.2.2.1
  by_cases hn6 : n < 6
  · have z6 : zin (nI n) 6 = true := zin_nI hn6 (by omega)
    generalize hm1 : wr (wr (wr (wr mem 37 n (nI S)) 38 n (nI w0)) 39 n c) 36 7 (nI (n + 1)) = m1
    have f1 : ∀ k, k ≠ 36 → k ≠ 37 → k ≠ 38 → k ≠ 39 → m1 k = mem k := fun k k1 k2 k3 k4 => by rw [← hm1, wr_ne k1, wr_ne k4, wr_ne k3, wr_ne k2]
    have g36 : ∀ j, j ≠ 7 → m1 36 j = mem 36 j := fun j hj => by rw [← hm1, wr_at, upd_ne hj, wr_ne (by decide), wr_ne (by decide), wr_ne (by decide)]
    have g7 : m1 36 7 = nI (n + 1) := by rw [← hm1, wr_at, upd_at]
    have g37 : m1 37 = upd (mem 37) n (nI S) := by rw [← hm1, wr_ne (by decide), wr_ne (by decide), wr_ne (by decide), wr_at]
    have g38 : m1 38 = upd (mem 38) n (nI w0) := by rw [← hm1, wr_ne (by decide), wr_ne (by decide), wr_at, wr_ne (by decide)]
    have g39 : m1 39 = upd (mem 39) n c := by rw [← hm1, wr_ne (by decide), wr_at, wr_ne (by decide), wr_ne (by decide)]
    have m44 : m1 44 = mem 44 := f1 44 (by decide) (by decide) (by decide) (by decide)
    generalize hm2 : wr (wr (wr (wr m1 52 (3 * n) (nI S)) 52 (3 * n + 1) (nI w0)) 52 (3 * n + 2) c) 44 10 (nI (n + 1)) = m2
    have f2 : ∀ k, k ≠ 44 → k ≠ 52 → m2 k = m1 k := fun k k1 k2 => by rw [← hm2, wr_ne k1, wr_ne k2, wr_ne k2, wr_ne k2]
    have g44 : ∀ j, j ≠ 10 → m2 44 j = mem 44 j := fun j hj => by rw [← hm2, wr_at, upd_ne hj, wr_ne (by decide), wr_ne (by decide), wr_ne (by decide), m44]
    have g10 : m2 44 10 = nI (n + 1) := by rw [← hm2, wr_at, upd_at]
    have g52 : m2 52 = upd (upd (upd (mem 52) (3 * n) (nI S)) (3 * n + 1) (nI w0)) (3 * n + 2) c := by rw [← hm2, wr_ne (by decide), wr_at, wr_at, wr_at, f1 52 (by decide) (by decide) (by decide) (by decide)]
    have fin : RR m2 := by
      refine noted_step hD (fun k hk => by rw [f2 k (by omega) (by omega), f1 k (by omega) (by omega) (by omega) (by omega)]) (fun k k1 k2 => by rw [f2 k (by omega) (by omega), f1 k (by omega) (by omega) (by omega) (by omega)]) (fun j j1 _ => g44 j j1) ⟨n + 1, fun i => if i = n then S else s i, fun i => if i = n then w0 else w i, by omega, by rw [f2 36 (by decide) (by decide)]; exact g7, g10, fun i hi => ?_⟩ (hD.2.2.2.2.2.2.1.fr (by rw [f2 36 (by decide) (by decide)]; exact g36 8 (by decide)) (g44 12 (by decide)) (fun k a b => by rw [f2 k (by omega) (by omega), f1 k (by omega) (by omega) (by omega) (by omega)]) (by rw [f2 53 (by decide) (by decide), f1 53 (by decide) (by decide) (by decide) (by decide)]))
      rw [f2 37 (by decide) (by decide), f2 38 (by decide) (by decide), f2 39 (by decide) (by decide), g37, g38, g39, g52]
      dsimp only
      by_cases e : i = n
      · subst e
        rw [if_pos rfl, if_pos rfl, upd_at, upd_at, upd_at]
        exact ⟨hS', hw0, rfl, rfl, by rw [upd_ne (by omega), upd_ne (by omega), upd_at], by rw [upd_ne (by omega), upd_at], by rw [upd_at]⟩
      · obtain ⟨q1, q2, q3, q4, q5, q6, q7⟩ := hS.2.2.2 i (by omega)
        rw [if_neg e, if_neg e, upd_ne e, upd_ne e, upd_ne e]
        exact ⟨q1, q2, q3, q4, by rw [upd_ne (by omega), upd_ne (by omega), upd_ne (by omega)]; exact q5, by rw [upd_ne (by omega), upd_ne (by omega), upd_ne (by omega)]; exact q6, by rw [upd_ne (by omega), upd_ne (by omega), upd_ne (by omega)]; exact q7⟩
    have hP1 : RP m1 (D 0) (D 1) (D 2) (D 3) (D 4) (fun k => D (5 + k)) (fun k => D (13 + k)) (fun k => D (21 + k)) (fun k => D (29 + k)) := RP_of hD.1 (hD.2.1.1.fr (fun k a b => f1 k (by omega) (by omega) (by omega) (by omega))) (by rw [f1 46 (by decide) (by decide) (by decide) (by decide)]; exact hD.2.1.2)
    refine ok_rw (nI (n + 1)) m1 m2 ?_ ?_ fin
    · have ha : f_X0_addSeen N mem (nI S) (nI w0) c = some (1, m1) := by
        unfold f_X0_addSeen
        have a2 : (wr mem 37 n (nI S)) 36 7 = nI n := by rw [wr_ne (by decide), e36]
        have a3 : (wr (wr mem 37 n (nI S)) 38 n (nI w0)) 36 7 = nI n := by rw [wr_ne (by decide), a2]
        have a4 : (wr (wr (wr mem 37 n (nI S)) 38 n (nI w0)) 39 n c) 36 7 = nI n := by rw [wr_ne (by decide), a3]
        rw [e36, if_pos (show nI n < (6 : Int32) from nI_lt (b := 6) hn6 (by omega)), zgd_t z6, nI_clamp (by omega), zlet_e, a2, zgd_t z6, nI_clamp (by omega), zlet_e, a3, zgd_t z6, nI_clamp (by omega), zlet_e, a4, nI_1, zlet_e, hm1]
      unfold f_X4_seen
      rw [zb_of (set_yes hP hS').1, if_neg (by decide), zb_of (i4 mem), if_neg (by decide), zb_of (w4_in hc), if_neg (by decide), zb_of ha, if_neg (by decide), g7]
    · have a1 : m1 44 10 = nI n := by rw [m44]; exact e44
      have a2 : (wr m1 52 (3 * n) (nI S)) 44 10 = nI n := by rw [wr_ne (by decide), a1]
      have a3 : (wr (wr m1 52 (3 * n) (nI S)) 52 (3 * n + 1) (nI w0)) 44 10 = nI n := by rw [wr_ne (by decide), a2]
      have a4 : (wr (wr (wr m1 52 (3 * n) (nI S)) 52 (3 * n + 1) (nI w0)) 52 (3 * n + 2) c) 44 10 = nI n := by rw [wr_ne (by decide), a3]
      have c0 : (3 : Int32) * nI n = nI (3 * n) := pk_mul 3 n
      have c1 : nI (3 * n) + (1 : Int32) = nI (3 * n + 1) := nI_add (3 * n) 1
      have c2 : nI (3 * n) + (2 : Int32) = nI (3 * n + 2) := nI_add (3 * n) 2
      unfold f_X5_seen
      rw [zb_of (set_yes hP1 hS').2, if_neg (by decide), zb_of (i5 m1), if_neg (by decide), zb_of (w5_in hc), if_neg (by decide), a1, if_neg (show ¬ nI n = (6 : Int32) from fun z => by have := (nI_eq (by omega) (by omega)).mp (show nI n = nI 6 from z); omega), c0, zgd_t (zin_nI (by omega) (by omega)), nI_clamp (by omega), zlet_e, a2, c0, c1, zgd_t (zin_nI (by omega) (by omega)), nI_clamp (by omega), zlet_e, a3, c0, c2, zgd_t (zin_nI (by omega) (by omega)), nI_clamp (by omega), zlet_e, a4, nI_1, zlet_e, hm2, g10]
  · obtain rfl : n = 6 := by omega
    refine ok_ro hR (-5) ?_ ?_
    · unfold f_X4_seen f_X0_addSeen
      rw [zb_of (set_yes hP hS').1, if_neg (by decide), zb_of (i4 mem), if_neg (by decide), zb_of (w4_in hc), if_neg (by decide), e36, if_neg (by decide)]
      rfl
    · unfold f_X5_seen
      rw [zb_of (set_yes hP hS').2, if_neg (by decide), zb_of (i5 mem), if_neg (by decide), zb_of (w5_in hc), if_neg (by decide), e44, if_pos (by decide)]
theorem c_heard (hR : RR mem) (a b c : Int32) : okc (f_X4_heard N mem a b c) (fun m => f_X5_heard N m a b c) := by
  obtain ⟨D, hD⟩ := id hR
  have hP := hD.rp
  have h8 := hP.1.1
  have hp := pow_256 h8
  rcases dm (2 ^ D 0) (by omega) a with h | ⟨S, hS', rfl⟩
  · refine ok_ro hR (-2) ?_ ?_
    · unfold f_X4_heard
      rw [zb_of (set_no hP h).1]
      rfl
    · unfold f_X5_heard
      rw [zb_of (set_no hP h).2]
      rfl
  rcases bd 0 99 (by omega) (by omega) b with h | ⟨v0, -, hv0, rfl⟩
  · refine ok_ro hR (-3) ?_ ?_
    · unfold f_X4_heard
      rw [zb_of (set_yes hP hS').1, if_neg (by decide), zb_of (show f_X4_isWithin N mem b (0 : Int32) (99 : Int32) = _ from w4_out h)]
      rfl
    · unfold f_X5_heard
      rw [zb_of (set_yes hP hS').2, if_neg (by decide), zb_of (show f_X5_in N mem b (0 : Int32) (99 : Int32) = _ from w5_out h)]
      rfl
  have i4 : ∀ m, f_X4_isWithin N m (nI v0) (0 : Int32) (99 : Int32) = some (1, m) := fun m => (wn4 (lo := 0) (hi := 99) (by omega) (by omega) (by omega)).trans (by rw [if_pos (show 0 ≤ v0 ∧ v0 ≤ 99 by omega)])
  have i5 : ∀ m, f_X5_in N m (nI v0) (0 : Int32) (99 : Int32) = some (1, m) := fun m => (wn5 (lo := 0) (hi := 99) (by omega) (by omega) (by omega)).trans (by rw [if_pos (show 0 ≤ v0 ∧ v0 ≤ 99 by omega)])
  rcases bd 0 1 (by omega) (by omega) c with hc | ⟨l, -, hl, rfl⟩
  · refine ok_ro hR (-3) ?_ ?_
    · unfold f_X4_heard
      rw [zb_of (set_yes hP hS').1, if_neg (by decide), zb_of (i4 mem), if_neg (by decide), zb_of (show f_X4_isWithin N mem c (0 : Int32) (1 : Int32) = _ from w4_out hc)]
      rfl
    · unfold f_X5_heard
      rw [zb_of (set_yes hP hS').2, if_neg (by decide), zb_of (i5 mem), if_neg (by decide), zb_of (show f_X5_in N mem c (0 : Int32) (1 : Int32) = _ from w5_out hc)]
      rfl
  have j4 : ∀ m, f_X4_isWithin N m (nI l) (0 : Int32) (1 : Int32) = some (1, m) := fun m => (wn4 (lo := 0) (hi := 1) (by omega) (by omega) (by omega)).trans (by rw [if_pos (show 0 ≤ l ∧ l ≤ 1 by omega)])
  have j5 : ∀ m, f_X5_in N m (nI l) (0 : Int32) (1 : Int32) = some (1, m) := fun m => (wn5 (lo := 0) (hi := 1) (by omega) (by omega) (by omega)).trans (by rw [if_pos (show 0 ≤ l ∧ l ≤ 1 by omega)])
  obtain ⟨pr, pa, we, no, sg, hW⟩ := hD.2.2.1
  have w3 : mem 11 3 = nI we := hW.2.1.2.2.1
  obtain ⟨n, s, v, u, lv, hH⟩ := hD.2.2.2.2.2.2.1
  have hn := hH.1
  have e36 : mem 36 8 = nI n := hH.2.1
  have e44 : mem 44 12 = nI n := hH.2.2.1
  have pick : ∀ x : Option (Int32 × zMem), f_X4_heard_49 N mem (nI S) (nI v0) (nI l) = x → (if nI l = (1 : Int32) then f_X4_heard_49 N mem (nI S) (nI v0) (1 : Int32) else f_X4_heard_49 N mem (nI S) (nI v0) (0 : Int32)) = x := by
    intro x hx
    have cl : l = 0 ∨ l = 1 := by omega
    rcases cl with rfl | rfl
    · rw [if_neg (by decide)]
      exact hx
    · rw [if_pos (by decide)]
      exact hx
  by_cases hn6 : n < 6
  · have z6 : zin (nI n) 6 = true := zin_nI hn6 (by omega)
    generalize hm1 : wr (wr (wr (wr (wr mem 40 n (nI S)) 41 n (nI v0)) 43 n (nI l)) 42 n (nI we)) 36 8 (nI (n + 1)) = m1
    have f1 : ∀ k, k ≠ 36 → k ≠ 40 → k ≠ 41 → k ≠ 42 → k ≠ 43 → m1 k = mem k := fun k k1 k2 k3 k4 k5 => by rw [← hm1, wr_ne k1, wr_ne k4, wr_ne k5, wr_ne k3, wr_ne k2]
    have g36 : ∀ j, j ≠ 8 → m1 36 j = mem 36 j := fun j hj => by rw [← hm1, wr_at, upd_ne hj, wr_ne (by decide), wr_ne (by decide), wr_ne (by decide), wr_ne (by decide)]
    have g7 : m1 36 8 = nI (n + 1) := by rw [← hm1, wr_at, upd_at]
    have g40 : m1 40 = upd (mem 40) n (nI S) := by rw [← hm1, wr_ne (by decide), wr_ne (by decide), wr_ne (by decide), wr_ne (by decide), wr_at]
    have g41 : m1 41 = upd (mem 41) n (nI v0) := by rw [← hm1, wr_ne (by decide), wr_ne (by decide), wr_ne (by decide), wr_at, wr_ne (by decide)]
    have g43 : m1 43 = upd (mem 43) n (nI l) := by rw [← hm1, wr_ne (by decide), wr_ne (by decide), wr_at, wr_ne (by decide), wr_ne (by decide)]
    have g42 : m1 42 = upd (mem 42) n (nI we) := by rw [← hm1, wr_ne (by decide), wr_at, wr_ne (by decide), wr_ne (by decide), wr_ne (by decide)]
    have m44 : m1 44 = mem 44 := f1 44 (by decide) (by decide) (by decide) (by decide) (by decide)
    generalize hm2 : wr (wr (wr (wr m1 53 (3 * n) (nI S)) 53 (3 * n + 1) (nI v0)) 53 (3 * n + 2) (nI l)) 44 12 (nI (n + 1)) = m2
    have f2 : ∀ k, k ≠ 44 → k ≠ 53 → m2 k = m1 k := fun k k1 k2 => by rw [← hm2, wr_ne k1, wr_ne k2, wr_ne k2, wr_ne k2]
    have g44 : ∀ j, j ≠ 12 → m2 44 j = mem 44 j := fun j hj => by rw [← hm2, wr_at, upd_ne hj, wr_ne (by decide), wr_ne (by decide), wr_ne (by decide), m44]
    have g10 : m2 44 12 = nI (n + 1) := by rw [← hm2, wr_at, upd_at]
    have g53 : m2 53 = upd (upd (upd (mem 53) (3 * n) (nI S)) (3 * n + 1) (nI v0)) (3 * n + 2) (nI l) := by rw [← hm2, wr_ne (by decide), wr_at, wr_at, wr_at, f1 53 (by decide) (by decide) (by decide) (by decide) (by decide)]
    have fin : RR m2 := by
      refine noted_step hD (fun k hk => by rw [f2 k (by omega) (by omega), f1 k (by omega) (by omega) (by omega) (by omega) (by omega)]) (fun k k1 k2 => by rw [f2 k (by omega) (by omega), f1 k (by omega) (by omega) (by omega) (by omega) (by omega)]) (fun j _ j1 => g44 j j1) (hD.2.2.2.2.2.1.fr (by rw [f2 36 (by decide) (by decide)]; exact g36 7 (by decide)) (g44 10 (by decide)) (fun k a b => by rw [f2 k (by omega) (by omega), f1 k (by omega) (by omega) (by omega) (by omega) (by omega)]) (by rw [f2 52 (by decide) (by decide), f1 52 (by decide) (by decide) (by decide) (by decide) (by decide)])) ⟨n + 1, fun i => if i = n then S else s i, fun i => if i = n then v0 else v i, fun i => if i = n then we else u i, fun i => if i = n then l else lv i, by omega, by rw [f2 36 (by decide) (by decide)]; exact g7, g10, fun i hi => ?_⟩
      rw [f2 40 (by decide) (by decide), f2 41 (by decide) (by decide), f2 42 (by decide) (by decide), f2 43 (by decide) (by decide), g40, g41, g42, g43, g53]
      dsimp only
      by_cases e : i = n
      · subst e
        rw [if_pos rfl, if_pos rfl, if_pos rfl, if_pos rfl, upd_at, upd_at, upd_at, upd_at]
        exact ⟨hS', hv0, hW.1.2.2.1, hl, rfl, rfl, rfl, rfl, by rw [upd_ne (by omega), upd_ne (by omega), upd_at], by rw [upd_ne (by omega), upd_at], by rw [upd_at]⟩
      · obtain ⟨q1, q2, q3, q4, q5, q6, q7, q8, q9, q10, q11⟩ := hH.2.2.2 i (by omega)
        rw [if_neg e, if_neg e, if_neg e, if_neg e, upd_ne e, upd_ne e, upd_ne e, upd_ne e]
        exact ⟨q1, q2, q3, q4, q5, q6, q7, q8, by rw [upd_ne (by omega), upd_ne (by omega), upd_ne (by omega)]; exact q9, by rw [upd_ne (by omega), upd_ne (by omega), upd_ne (by omega)]; exact q10, by rw [upd_ne (by omega), upd_ne (by omega), upd_ne (by omega)]; exact q11⟩
    have hP1 : RP m1 (D 0) (D 1) (D 2) (D 3) (D 4) (fun k => D (5 + k)) (fun k => D (13 + k)) (fun k => D (21 + k)) (fun k => D (29 + k)) := RP_of hD.1 (hD.2.1.1.fr (fun k a b => f1 k (by omega) (by omega) (by omega) (by omega) (by omega))) (by rw [f1 46 (by decide) (by decide) (by decide) (by decide) (by decide)]; exact hD.2.1.2)
    refine ok_rw (nI (n + 1)) m1 m2 ?_ ?_ fin
    · have nar : vp_nar .boolean (nI l) = nI l := by
        have cl : l = 0 ∨ l = 1 := by omega
        rcases cl with rfl | rfl <;> rfl
      have ha : f_X0_addHeard N mem (nI S) (nI v0) (nI l) (nI we) = some (1, m1) := by
        unfold f_X0_addHeard
        have a2 : (wr mem 40 n (nI S)) 36 8 = nI n := by rw [wr_ne (by decide), e36]
        have a3 : (wr (wr mem 40 n (nI S)) 41 n (nI v0)) 36 8 = nI n := by rw [wr_ne (by decide), a2]
        have a4 : (wr (wr (wr mem 40 n (nI S)) 41 n (nI v0)) 43 n (nI l)) 36 8 = nI n := by rw [wr_ne (by decide), a3]
        have a5 : (wr (wr (wr (wr mem 40 n (nI S)) 41 n (nI v0)) 43 n (nI l)) 42 n (nI we)) 36 8 = nI n := by rw [wr_ne (by decide), a4]
        rw [e36, if_pos (show nI n < (6 : Int32) from nI_lt (b := 6) hn6 (by omega)), zgd_t z6, nI_clamp (by omega), zlet_e, a2, zgd_t z6, nI_clamp (by omega), zlet_e, a3, zgd_t z6, nI_clamp (by omega), nar, zlet_e, a4, zgd_t z6, nI_clamp (by omega), zlet_e, a5, nI_1, zlet_e, hm1]
      unfold f_X4_heard
      rw [zb_of (set_yes hP hS').1, if_neg (by decide), zb_of (i4 mem), if_neg (by decide), zb_of (j4 mem), if_neg (by decide)]
      refine pick _ ?_
      unfold f_X4_heard_49
      rw [w3, zb_of ha, if_neg (by decide), g7]
    · have a1 : m1 44 12 = nI n := by rw [m44]; exact e44
      have a2 : (wr m1 53 (3 * n) (nI S)) 44 12 = nI n := by rw [wr_ne (by decide), a1]
      have a3 : (wr (wr m1 53 (3 * n) (nI S)) 53 (3 * n + 1) (nI v0)) 44 12 = nI n := by rw [wr_ne (by decide), a2]
      have a4 : (wr (wr (wr m1 53 (3 * n) (nI S)) 53 (3 * n + 1) (nI v0)) 53 (3 * n + 2) (nI l)) 44 12 = nI n := by rw [wr_ne (by decide), a3]
      have c0 : (3 : Int32) * nI n = nI (3 * n) := pk_mul 3 n
      have c1 : nI (3 * n) + (1 : Int32) = nI (3 * n + 1) := nI_add (3 * n) 1
      have c2 : nI (3 * n) + (2 : Int32) = nI (3 * n + 2) := nI_add (3 * n) 2
      unfold f_X5_heard
      rw [zb_of (set_yes hP1 hS').2, if_neg (by decide), zb_of (i5 m1), if_neg (by decide), zb_of (j5 m1), if_neg (by decide), a1, if_neg (show ¬ nI n = (6 : Int32) from fun z => by have := (nI_eq (by omega) (by omega)).mp (show nI n = nI 6 from z); omega), c0, zgd_t (zin_nI (by omega) (by omega)), nI_clamp (by omega), zlet_e, a2, c0, c1, zgd_t (zin_nI (by omega) (by omega)), nI_clamp (by omega), zlet_e, a3, c0, c2, zgd_t (zin_nI (by omega) (by omega)), nI_clamp (by omega), zlet_e, a4, nI_1, zlet_e, hm2, g10]
  · obtain rfl : n = 6 := by omega
    refine ok_ro hR (-5) ?_ ?_
    · unfold f_X4_heard
      rw [zb_of (set_yes hP hS').1, if_neg (by decide), zb_of (i4 mem), if_neg (by decide), zb_of (j4 mem), if_neg (by decide)]
      refine pick _ ?_
      unfold f_X4_heard_49 f_X0_addHeard
      rw [e36, if_neg (by decide)]
      rfl
    · unfold f_X5_heard
      rw [zb_of (set_yes hP hS').2, if_neg (by decide), zb_of (i5 mem), if_neg (by decide), zb_of (j5 mem), if_neg (by decide), e44, if_pos (by decide)]
end GN
