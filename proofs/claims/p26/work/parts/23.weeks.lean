/-! WEEKS: one made like another, the ring of the past against the row of the past, what is kept -/
theorem upd_at {f : Nat → Int32} {k : Nat} {v : Int32} : upd f k v k = v := if_pos rfl
theorem upd_ne {f : Nat → Int32} {k j : Nat} {v : Int32} (h : j ≠ k) : upd f k v j = f j := if_neg h
theorem upd_upd {f : Nat → Int32} {k : Nat} {v w : Int32} : upd (upd f k v) k w = upd f k w := by
  funext j
  by_cases h : j = k
  · subst h
    rw [upd_at, upd_at]
  · rw [upd_ne h, upd_ne h, upd_ne h]
theorem wr_at {mem : zMem} {c i : Nat} {v : Int32} : wr mem c i v c = upd (mem c) i v := if_pos rfl
theorem wr_ne {mem : zMem} {c i k : Nat} {v : Int32} (h : k ≠ c) : wr mem c i v k = mem k := if_neg h
/-- w made like o -/
def bl (mem : zMem) (w o : Nat) : zMem := rset (rset mem (w + 1) (fun j => if j < 6 then mem (o + 1) j else mem (w + 1) j)) w (fun j => if 1 ≤ j ∧ j ≤ 6 then mem o j else mem w j)
theorem bl_ne {mem : zMem} {w o k : Nat} (h1 : k ≠ w) (h2 : k ≠ w + 1) : bl mem w o k = mem k := by
  unfold bl
  rw [rset_ne h1, rset_ne h2]
theorem bl_f {mem : zMem} {w o j : Nat} (h : 1 ≤ j ∧ j ≤ 6) : bl mem w o w j = mem o j := by
  unfold bl
  rw [rset_at, if_pos h]
theorem bl_g {mem : zMem} {w o j : Nat} (h : j < 6) : bl mem w o (w + 1) j = mem (o + 1) j := by
  unfold bl
  rw [rset_ne (by omega), rset_at, if_pos h]
theorem becomeLike_spec {N : Nat} {mem : zMem} {w o : Nat} (h1 : o ≠ w) (h2 : o ≠ w + 1) : f_X3_becomeLike N w o mem = some ((), bl mem w o) := by
  unfold f_X3_becomeLike
  simp only [zlet_e]
  refine congrArg (fun z => some ((), z)) ?_
  have e0 : ∀ j, cpy6 mem (o + 1) (w + 1) o j = mem o j := fun j => by
    unfold cpy6
    rw [if_neg h2]
  funext k
  by_cases hk : k = w
  · subst hk
    funext j
    unfold bl
    rw [rset_at]
    simp only [wr_at, wr_ne h1, upd, e0]
    match j with
    | 0 => simp [cpy6]
    | 1 => simp
    | 2 => simp
    | 3 => simp
    | 4 => simp
    | 5 => simp
    | 6 => simp
    | j + 7 =>
      rw [if_neg (by omega), if_neg (by omega), if_neg (by omega), if_neg (by omega), if_neg (by omega), if_neg (by omega), if_neg (by omega)]
      simp [cpy6]
  · simp only [wr_ne hk]
    by_cases hk2 : k = w + 1
    · subst hk2
      funext j
      unfold bl
      rw [rset_ne (by omega), rset_at]
      unfold cpy6
      rw [if_pos rfl]
      by_cases hj : j < 6
      · rw [if_pos hj, pk_cpy_in (by omega) (by omega)]
        simp
      · rw [if_neg hj, pk_cpy_out (by omega)]
    · rw [bl_ne hk hk2]
      unfold cpy6
      rw [if_neg hk2]
theorem RW.congr {np ns : Nat} {f g h f' g' h' : Nat → Int32} {pr pa we no : Nat} {sg : Nat → Nat} (H : RW np ns f g h pr pa we no sg) (hns : ns ≤ 6) (hf : ∀ j, 1 ≤ j ∧ j ≤ 6 → f' j = f j) (hg : ∀ j, j < 6 → g' j = g j) (hh : ∀ j, j < 12 → h' j = h j) : RW np ns f' g' h' pr pa we no sg := by
  obtain ⟨b, ⟨f1, f2, f3, f4⟩, ⟨h7, h8, h6, h9⟩, ⟨q5, q6⟩, hs⟩ := H
  refine ⟨b, ⟨by rw [hf 1 (by omega)]; exact f1, by rw [hf 2 (by omega)]; exact f2, by rw [hf 3 (by omega)]; exact f3, by rw [hf 4 (by omega)]; exact f4⟩, ⟨by rw [hh 7 (by omega)]; exact h7, by rw [hh 8 (by omega)]; exact h8, by rw [hh 6 (by omega)]; exact h6, by rw [hh 9 (by omega)]; exact h9⟩, ⟨by rw [hf 5 (by omega), hh 10 (by omega)]; exact q5, by rw [hf 6 (by omega), hh 11 (by omega)]; exact q6⟩, fun k hk => ?_⟩
  obtain ⟨s1, s2, s3⟩ := hs k hk
  exact ⟨s1, by rw [hg k (by omega)]; exact s2, by rw [hh k (by omega)]; exact s3⟩
def RWe (np ns : Nat) (f g h : Nat → Int32) : Prop := ∃ (pr pa we no : Nat) (sg : Nat → Nat), RW np ns f g h pr pa we no sg
theorem RWe.congr {np ns : Nat} {f g h f' g' h' : Nat → Int32} (H : RWe np ns f g h) (hns : ns ≤ 6) (hf : ∀ j, 1 ≤ j ∧ j ≤ 6 → f' j = f j) (hg : ∀ j, j < 6 → g' j = g j) (hh : ∀ j, j < 12 → h' j = h j) : RWe np ns f' g' h' := by
  obtain ⟨pr, pa, we, no, sg, H⟩ := H
  exact ⟨pr, pa, we, no, sg, H.congr hns hf hg hh⟩
/-- the past: the class's ring (its place q, u weeks) against the reference's row -/
def RU (mem : zMem) (np ns u q : Nat) : Prop :=
  (u ≤ 8 ∧ q < 8) ∧ (mem 0 7 = nI u ∧ mem 0 8 = nI q ∧ mem 44 6 = nI u) ∧ ∀ j, j < u → RWe np ns (mem (14 + 2 * ((q + 8 - u + j) % 8))) (mem (15 + 2 * ((q + 8 - u + j) % 8))) (fun i => mem 49 (12 * j + i))
def up8 (u : Nat) : Nat := if u = 8 then 8 else u + 1
theorem RU.step {mem mem' : zMem} {np ns u q : Nat} (H : RU mem np ns u q) (hns : ns ≤ 6) (hW : RWe np ns (mem 11) (mem 12) (mem 48)) (e7 : mem' 0 7 = nI (up8 u)) (e8 : mem' 0 8 = nI ((q + 1) % 8)) (e6 : mem' 44 6 = nI (up8 u))
    (ho : ∀ i, i < 8 → i ≠ q → mem' (14 + 2 * i) = mem (14 + 2 * i) ∧ mem' (15 + 2 * i) = mem (15 + 2 * i)) (hf : ∀ j, 1 ≤ j ∧ j ≤ 6 → mem' (14 + 2 * q) j = mem 11 j) (hg : ∀ j, j < 6 → mem' (15 + 2 * q) j = mem 12 j)
    (hn : ∀ i, i < 12 → mem' 49 (12 * (up8 u - 1) + i) = mem 48 i) (hp : ∀ j, j < up8 u - 1 → ∀ i, i < 12 → mem' 49 (12 * j + i) = mem 49 (12 * (if u = 8 then j + 1 else j) + i)) : RU mem' np ns (up8 u) ((q + 1) % 8) := by
  obtain ⟨⟨hu, hq⟩, -, hw⟩ := H
  have hu8 : up8 u ≤ 8 ∧ 1 ≤ up8 u := by unfold up8; split <;> omega
  refine ⟨⟨hu8.1, by omega⟩, ⟨e7, e8, e6⟩, fun j hj => ?_⟩
  by_cases hl : j = up8 u - 1
  · have ei : ((q + 1) % 8 + 8 - up8 u + j) % 8 = q := by unfold up8 at hl ⊢; split at hl <;> rename_i h <;> simp only [h, if_true, if_false] <;> omega
    rw [ei]
    refine hW.congr hns hf hg (fun i hi => ?_)
    show mem' 49 (12 * j + i) = _
    rw [hl]
    exact hn i hi
  · have hjl : j < up8 u - 1 := by omega
    have hold := hw (if u = 8 then j + 1 else j) (by unfold up8 at hjl; split at hjl <;> rename_i h <;> simp only [h, if_true, if_false] <;> omega)
    have ei : ((q + 1) % 8 + 8 - up8 u + j) % 8 = (q + 8 - u + (if u = 8 then j + 1 else j)) % 8 := by unfold up8 at hjl ⊢; split at hjl <;> rename_i h <;> simp only [h, if_true, if_false] <;> omega
    have hne : (q + 8 - u + (if u = 8 then j + 1 else j)) % 8 ≠ q := by unfold up8 at hjl; split at hjl <;> rename_i h <;> simp only [h, if_true, if_false] <;> omega
    rw [ei]
    obtain ⟨o1, o2⟩ := ho _ (Nat.mod_lt _ (by omega)) hne
    rw [o1, o2]
    exact hold.congr hns (fun _ _ => rfl) (fun _ _ => rfl) (fun i hi => hp j hjl i hi)
theorem remember_spec {N : Nat} {mem : zMem} {np ns u q : Nat} (H : RU mem np ns u q) : f_X4_rememberWeek N mem = some ((), rset (bl mem (14 + 2 * q) 11) 0 (upd (upd (mem 0) 8 (nI ((q + 1) % 8))) 7 (nI (up8 u)))) := by
  obtain ⟨⟨hu, hq⟩, ⟨e7, e8, -⟩, -⟩ := H
  unfold f_X4_rememberWeek
  rw [e8, zgd_t (zin_nI (by omega) (by omega)), nI_clamp (by omega), zb_of (becomeLike_spec (by omega) (by omega))]
  have hb : bl mem (14 + 2 * q) 11 0 = mem 0 := bl_ne (by omega) (by omega)
  simp only [zlet_e, hb, e8, wr_at]
  rw [upd_ne (show 7 ≠ 8 by decide), e7, show (1 : Int32) = nI 1 from rfl, nI_add, nI_add, show (8 : Int32) = nI 8 from rfl, pk_rem (by omega) (by omega) (by omega)]
  have e9 : (if nI 8 < nI (u + 1) then nI 8 else nI (u + 1)) = nI (up8 u) := by
    unfold up8
    by_cases h : u = 8
    · rw [if_pos h, if_pos (nI_lt (by omega) (by omega))]
    · rw [if_neg h, if_neg (nI_nlt (by omega) (by omega))]
  rw [e9]
  refine congrArg (fun z => some ((), z)) ?_
  funext k
  by_cases hk : k = 0
  · subst hk
    rw [wr_at, wr_at, hb, rset_at]
  · rw [wr_ne hk, wr_ne hk, rset_ne hk]
theorem keeps50 (N : Nat) {u : Nat} (hu : u ≤ 7) : ∀ (d n i : Nat) (mem : zMem), mem 44 6 = nI u → i + d = 12 → d < n → f_X5_keeps_50 N n mem (nI i) = some ((), rset (rset mem 49 (fun j => if 12 * u + i ≤ j ∧ j < 12 * u + 12 then mem 48 (j - 12 * u) else mem 49 j)) 44 (upd (mem 44) 6 (nI (u + 1)))) := by
  intro d
  induction d with
  | zero =>
    intro n i mem e6 hi hn
    obtain ⟨n, rfl⟩ : ∃ n', n = n' + 1 := ⟨n - 1, by omega⟩
    rw [f_X5_keeps_50.eq_2, if_pos (show (12 : Int32) ≤ nI i from nI_le (a := 12) (b := i) (by omega) (by omega)), zlet_e, e6, nI_1]
    rw [rset_self (mem := mem) (c := 49) (fun j => by rw [if_neg (by omega)])]
    rfl
  | succ d ih =>
    intro n i mem e6 hi hn
    obtain ⟨n, rfl⟩ : ∃ n', n = n' + 1 := ⟨n - 1, by omega⟩
    rw [f_X5_keeps_50.eq_2, if_neg (show ¬ (12 : Int32) ≤ nI i from nI_ge (a := i) (b := 12) (by omega) (by omega)), e6, show (12 : Int32) = nI 12 from rfl, pk_mul, nI_add, zgd_t (zin_nI (by omega) (by omega)), zgd_t (zin_nI (by omega) (by omega)), zlet_e, nI_clamp (by omega), nI_clamp (by omega), nI_1, ih n (i + 1) _ (by rw [wr_ne (by decide)]; exact e6) (by omega) (by omega), wr_rset, rset_rset]
    refine congrArg (fun z => some ((), rset z 44 _)) (rset_ext (fun j => ?_))
    rw [rset_at, rset_ne (show 48 ≠ 49 by decide)]
    by_cases h1 : 12 * u + (i + 1) ≤ j ∧ j < 12 * u + 12
    · rw [if_pos h1, if_pos (by omega)]
    · rw [if_neg h1]
      by_cases h2 : j = 12 * u + i
      · subst h2
        rw [upd_at, if_pos (by omega), show 12 * u + i - 12 * u = i by omega]
      · rw [upd_ne h2, if_neg (by omega)]
theorem keeps11 {N : Nat} (hN : 300 ≤ N) : ∀ (d n i : Nat) (mem : zMem), mem 44 6 = nI 8 → i + d = 84 → d < n → f_X5_keeps_11 N n mem (nI i) = f_X5_keeps_48 N (rset (rset mem 49 (fun j => if i ≤ j ∧ j < 84 then mem 49 (j + 12) else mem 49 j)) 44 (upd (mem 44) 6 (nI 7))) := by
  intro d
  induction d with
  | zero =>
    intro n i mem e6 hi hn
    obtain ⟨n, rfl⟩ : ∃ n', n = n' + 1 := ⟨n - 1, by omega⟩
    rw [f_X5_keeps_11.eq_2, if_pos (show (84 : Int32) ≤ nI i from nI_le (a := 84) (b := i) (by omega) (by omega)), zlet_e, e6, show (nI 8 - 1 : Int32) = nI 7 from rfl]
    rw [rset_self (mem := mem) (c := 49) (fun j => by rw [if_neg (by omega)])]
    rfl
  | succ d ih =>
    intro n i mem e6 hi hn
    obtain ⟨n, rfl⟩ : ∃ n', n = n' + 1 := ⟨n - 1, by omega⟩
    rw [f_X5_keeps_11.eq_2, if_neg (show ¬ (84 : Int32) ≤ nI i from nI_ge (a := i) (b := 84) (by omega) (by omega)), show nI i + (12 : Int32) = nI (i + 12) from nI_add i 12, zgd_t (zin_nI (by omega) (by omega)), zgd_t (zin_nI (by omega) (by omega)), zlet_e, nI_clamp (by omega), nI_clamp (by omega), nI_1, ih n (i + 1) _ (by rw [wr_ne (by decide)]; exact e6) (by omega) (by omega), wr_rset, rset_rset]
    refine congrArg (fun z => f_X5_keeps_48 N (rset z 44 _)) (rset_ext (fun j => ?_))
    rw [rset_at]
    by_cases h1 : i + 1 ≤ j ∧ j < 84
    · rw [if_pos h1, if_pos (by omega), upd_ne (by omega)]
    · rw [if_neg h1]
      by_cases h2 : j = i
      · subst h2
        rw [upd_at, if_pos (by omega)]
      · rw [upd_ne h2, if_neg (by omega)]
theorem keeps_spec {N : Nat} (hN : 300 ≤ N) {mem : zMem} {u : Nat} (hu : u ≤ 8) (e6 : mem 44 6 = nI u) : ∃ p' : Nat → Int32, f_X5_keeps N mem = some ((), rset (rset mem 49 p') 44 (upd (mem 44) 6 (nI (up8 u)))) ∧ (∀ i, i < 12 → p' (12 * (up8 u - 1) + i) = mem 48 i) ∧ ∀ j, j < up8 u - 1 → ∀ i, i < 12 → p' (12 * j + i) = mem 49 (12 * (if u = 8 then j + 1 else j) + i) := by
  unfold f_X5_keeps
  rw [e6]
  by_cases h : u = 8
  · subst h
    rw [if_pos (show nI 8 = 8 from rfl), show (0 : Int32) = nI 0 from rfl, keeps11 hN 84 N 0 mem e6 (by omega) (by omega)]
    unfold f_X5_keeps_48
    rw [show (0 : Int32) = nI 0 from rfl, keeps50 N (u := 7) (by omega) 12 N 0 _ (by rw [rset_at, upd_at]) (by omega) (by omega)]
    refine ⟨fun j => if 84 ≤ j ∧ j < 96 then mem 48 (j - 84) else if j < 84 then mem 49 (j + 12) else mem 49 j, ?_, fun i hi => ?_, fun j hj i hi => ?_⟩
    · refine congrArg (fun z => some ((), z)) ?_
      rw [rset_at, upd_upd]
      funext k
      by_cases k1 : k = 44
      · subst k1
        rw [rset_at, rset_at]
        rfl
      · rw [rset_ne k1, rset_ne k1]
        by_cases k2 : k = 49
        · subst k2
          rw [rset_at, rset_at]
          funext j
          rw [rset_ne (show 48 ≠ 44 by decide), rset_ne (show 48 ≠ 49 by decide), rset_ne (show 49 ≠ 44 by decide), rset_at]
          by_cases q1 : 84 ≤ j ∧ j < 96
          · rw [if_pos (by omega), if_pos q1]
          · rw [if_neg (by omega), if_neg q1]
            by_cases q2 : j < 84
            · rw [if_pos (by omega), if_pos q2]
            · rw [if_neg (by omega), if_neg q2]
        · rw [rset_ne k2, rset_ne k2, rset_ne k1, rset_ne k2]
    · show (if 84 ≤ 12 * (up8 8 - 1) + i ∧ 12 * (up8 8 - 1) + i < 96 then _ else _) = _
      have e : up8 8 = 8 := rfl
      rw [e, if_pos (by omega), show 12 * (8 - 1) + i - 84 = i by omega]
    · have e : up8 8 = 8 := rfl
      rw [e] at hj
      show (if 84 ≤ 12 * j + i ∧ 12 * j + i < 96 then _ else if 12 * j + i < 84 then mem 49 (12 * j + i + 12) else _) = mem 49 (12 * (if 8 = 8 then j + 1 else j) + i)
      rw [if_neg (by omega), if_pos (by omega), if_pos rfl, show 12 * j + i + 12 = 12 * (j + 1) + i by omega]
  · have hn : ¬ nI u = (8 : Int32) := fun q => h ((nI_eq (by omega) (by omega)).mp (show nI u = nI 8 from q))
    rw [if_neg hn]
    unfold f_X5_keeps_48
    rw [show (0 : Int32) = nI 0 from rfl, keeps50 N (u := u) (by omega) 12 N 0 mem e6 (by omega) (by omega)]
    have e : up8 u = u + 1 := by unfold up8; rw [if_neg h]
    rw [e]
    refine ⟨_, rfl, fun i hi => ?_, fun j hj i hi => ?_⟩
    · show (if 12 * u + 0 ≤ 12 * (u + 1 - 1) + i ∧ 12 * (u + 1 - 1) + i < 12 * u + 12 then _ else _) = _
      rw [if_pos (by omega), show 12 * (u + 1 - 1) + i - 12 * u = i by omega]
    · show (if 12 * u + 0 ≤ 12 * j + i ∧ 12 * j + i < 12 * u + 12 then _ else _) = mem 49 (12 * (if u = 8 then j + 1 else j) + i)
      rw [if_neg (by omega), if_neg h]
