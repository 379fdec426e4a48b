/-! WHAT WAS SEEN AND HEARD, AND CONFESSED: weights, thumbs, confessed -/
def RN (mem : zMem) (np a : Nat) (s w : Nat → Nat) : Prop := a ≤ 6 ∧ mem 36 7 = nI a ∧ mem 44 10 = nI a ∧ ∀ i, i < a → s i < 2 ^ np ∧ w i ≤ 9 ∧ mem 37 i = nI (s i) ∧ mem 38 i = nI (w i) ∧ mem 52 (3 * i) = nI (s i) ∧ mem 52 (3 * i + 1) = nI (w i) ∧ mem 39 i = mem 52 (3 * i + 2)
def RH (mem : zMem) (np b : Nat) (s v u lv : Nat → Nat) : Prop := b ≤ 6 ∧ mem 36 8 = nI b ∧ mem 44 12 = nI b ∧ ∀ i, i < b → s i < 2 ^ np ∧ v i ≤ 99 ∧ u i ≤ 9 ∧ lv i ≤ 1 ∧ mem 40 i = nI (s i) ∧ mem 41 i = nI (v i) ∧ mem 42 i = nI (u i) ∧ mem 43 i = nI (lv i) ∧ mem 53 (3 * i) = nI (s i) ∧ mem 53 (3 * i + 1) = nI (v i) ∧ mem 53 (3 * i + 2) = nI (lv i)
def clr (S p : Nat) : Nat := if S / 2 ^ p % 2 = 1 then S - 2 ^ p else S
theorem clr_t : ∀ S : Fin 256, ∀ p : Fin 8, (nI S.val &&& (((1 : Int32) <<< (nI p.val &&& 31)) ^^^ (-1 : Int32))) = nI (clr S.val p.val) := by decide +kernel
theorem clr_e {S p : Nat} (hS : S < 256) (hp : p < 8) : (nI S &&& (((1 : Int32) <<< (nI p &&& 31)) ^^^ (-1 : Int32))) = nI (clr S p) := clr_t ⟨S, hS⟩ ⟨p, hp⟩
theorem clr_lt {S p : Nat} (hS : S < 256) : clr S p < 256 := by
  unfold clr
  split
  · exact Nat.lt_of_le_of_lt (Nat.sub_le _ _) hS
  · exact hS
def b2i (b : Bool) : Int32 := if b then 1 else 0
section GE
variable {N : Nat} {mem : zMem} {np ns th bm tw : Nat} {kd wt mn sn : Nat → Nat} {pr pa we no : Nat} {sg : Nat → Nat}
/-- what the parts of a seen set would weigh, with a weight for one of them -/
def sw (kd wt : Nat → Nat) (np p g S w : Nat) : Nat := ozS kd wt (clr S p) w np + (if S / 2 ^ p % 2 = 1 then oz (kd p) g w else 0)
def ft (kd wt s w : Nat → Nat) (z : Nat → Int32) (np p g : Nat) : Nat → Nat → Bool
  | 0, _ => true
  | d + 1, i => if nI (sw kd wt np p g (s i) (w i)) = z i then ft kd wt s w z np p g d (i + 1) else false
theorem s_256 (hP : RP mem np ns th bm tw kd wt mn sn) {S : Nat} (h : S < 2 ^ np) : S < 256 := Nat.lt_of_lt_of_le h (pow_256 hP.1.1)
theorem fits4 (hP : RP mem np ns th bm tw kd wt mn sn) (hN : 300 ≤ N) {a : Nat} {s w : Nat → Nat} (hR : RN mem np a s w) {p g : Nat} (hp : p < np) (hg : g ≤ 20) : ∀ (d n i : Nat), i + d = a → d < n → f_X4_fitsAllSeen_2 N n mem (nI p) (nI g) (nI i) = some (b2i (ft kd wt s w (mem 39) np p g d i), mem) := by
  have h8 := hP.1.1
  have h6 := hR.1
  intro d
  induction d with
  | zero =>
    intro n i hi hn
    obtain ⟨n, rfl⟩ : ∃ n', n = n' + 1 := ⟨n - 1, by omega⟩
    rw [f_X4_fitsAllSeen_2.eq_2, hR.2.1, if_pos (nI_le (by omega) (by omega))]
    rfl
  | succ d ih =>
    intro n i hi hn
    obtain ⟨n, rfl⟩ : ∃ n', n = n' + 1 := ⟨n - 1, by omega⟩
    have hih := ih n (i + 1) (by omega) (by omega)
    obtain ⟨q1, q2, q3, q4, q5, q6, q7⟩ := hR.2.2.2 i (by omega)
    have hs := s_256 hP q1
    obtain ⟨k1, -, -, k4, -⟩ := hP.2.2.2.1 p hp
    rw [f_X4_fitsAllSeen_2.eq_2, hR.2.1, if_neg (nI_ge (by omega) (by omega)), zgd_t (zin_nI (by omega) (by omega)), zgd_t (zin_nI (by omega) (by omega)), nI_clamp (by omega), q3, q4, clr_e hs (by omega), zb_of (ozS4 hP hN (clr_lt hs)), zb_of (isIn_spec hs (by omega))]
    unfold ft sw
    rcases bit_01 (s i) p with h | h
    · rw [h, if_pos (show nI 0 = 0 from rfl), zgd_t (zin_nI (by omega) (by omega)), if_neg (show ¬ (0 : Nat) = 1 by decide), Nat.add_zero, nI_1]
      by_cases e : nI (ozS kd wt (clr (s i) p) (w i) np) = mem 39 i
      · rw [if_pos e, if_pos e]
        exact hih
      · rw [if_neg e, if_neg e]
        rfl
    · rw [h, if_neg (show ¬ nI 1 = 0 by decide), zgd_t (zin_nI (by omega) (by omega)), nI_clamp (by omega), k4, zb_of (oz4 k1 hg), zgd_t (zin_nI (by omega) (by omega)), if_pos rfl, nI_add, nI_1]
      by_cases e : nI (ozS kd wt (clr (s i) p) (w i) np + oz (kd p) g (w i)) = mem 39 i
      · rw [if_pos e, if_pos e]
        exact hih
      · rw [if_neg e, if_neg e]
        rfl
theorem fits5 (hP : RP mem np ns th bm tw kd wt mn sn) (hN : 300 ≤ N) {a : Nat} {s w : Nat → Nat} (hR : RN mem np a s w) {p g : Nat} (hp : p < np) (hg : g ≤ 20) (k : zMem → Int32 → Int32 → Int32 → Int32 → Option (Int32 × zMem)) (acc : Int32) : ∀ (d n i : Nat) (so : Bool), i + d = a → d < n → f_X5_weights_27 k N n mem (nI p) acc (nI g) (b2i so) (nI i) = k mem (nI p) acc (nI g) (b2i (so && ft kd wt s w (mem 39) np p g d i)) := by
  have h8 := hP.1.1
  have h6 := hR.1
  intro d
  induction d with
  | zero =>
    intro n i so hi hn
    obtain ⟨n, rfl⟩ : ∃ n', n = n' + 1 := ⟨n - 1, by omega⟩
    rw [f_X5_weights_27.eq_2, hR.2.2.1, if_pos (nI_le (by omega) (by omega))]
    unfold ft
    rw [Bool.and_true]
  | succ d ih =>
    intro n i so hi hn
    obtain ⟨n, rfl⟩ : ∃ n', n = n' + 1 := ⟨n - 1, by omega⟩
    obtain ⟨q1, q2, q3, q4, q5, q6, q7⟩ := hR.2.2.2 i (by omega)
    have hs := s_256 hP q1
    obtain ⟨k1, -, -, -, -, -, k4, -⟩ := hP.2.2.2.1 p hp
    have c0 : (3 : Int32) * nI i = nI (3 * i) := pk_mul 3 i
    have c1 : nI (3 * i) + (1 : Int32) = nI (3 * i + 1) := nI_add (3 * i) 1
    have c2 : nI (3 * i) + (2 : Int32) = nI (3 * i + 2) := nI_add (3 * i) 2
    have stop : ∀ so', f_X5_weights_27 k N n mem (nI p) acc (nI g) (b2i so') (nI i + 1) = k mem (nI p) acc (nI g) (b2i (so' && ft kd wt s w (mem 39) np p g d (i + 1))) := fun so' => by
      rw [nI_1]
      exact ih n (i + 1) so' (by omega) (by omega)
    rw [f_X5_weights_27.eq_2, hR.2.2.1, if_neg (nI_ge (by omega) (by omega)), c0, zgd_t (zin_nI (by omega) (by omega)), c1, zgd_t (zin_nI (by omega) (by omega)), nI_clamp (by omega), q5, nI_clamp (by omega), q6, clr_e hs (by omega), zb_of (ozS5 hP hN (clr_lt hs)), bit_e hs (by omega), c2]
    have fin : ∀ t : Nat, sw kd wt np p g (s i) (w i) = t → (if b2i so = 0 then f_X5_weights_27 k N n mem (nI p) acc (nI g) 0 (nI i + 1) else zgd (zin (nI (3 * i + 2)) 18) (if nI t = mem 52 (nI (3 * i + 2)).toNatClampNeg then f_X5_weights_27 k N n mem (nI p) acc (nI g) 1 (nI i + 1) else f_X5_weights_27 k N n mem (nI p) acc (nI g) 0 (nI i + 1))) = k mem (nI p) acc (nI g) (b2i (so && ft kd wt s w (mem 39) np p g (d + 1) i)) := by
      intro t ht
      show _ = k mem (nI p) acc (nI g) (b2i (so && (if nI (sw kd wt np p g (s i) (w i)) = mem 39 i then ft kd wt s w (mem 39) np p g d (i + 1) else false)))
      rw [ht, q7]
      cases so with
      | false =>
        rw [if_pos (show b2i false = 0 from rfl)]
        exact stop false
      | true =>
        rw [if_neg (show ¬ b2i true = 0 by decide), zgd_t (zin_nI (by omega) (by omega)), nI_clamp (by omega)]
        by_cases e : nI t = mem 52 (3 * i + 2)
        · rw [if_pos e, if_pos e]
          exact stop true
        · rw [if_neg e, if_neg e]
          exact stop false
    rcases bit_01 (s i) p with h | h
    · rw [h, if_neg (show ¬ nI 0 = 1 by decide), show nI (ozS kd wt (clr (s i) p) (w i) np) + (0 : Int32) = nI (ozS kd wt (clr (s i) p) (w i) np) from nI_add _ 0]
      exact fin _ (by unfold sw; rw [h, if_neg (by decide), Nat.add_zero])
    · rw [h, if_pos (show nI 1 = 1 from rfl), show (5 : Int32) + nI p = nI (5 + p) from nI_add 5 p, zgd_t (zin_nI (by omega) (by omega)), nI_clamp (by omega), k4, zb_of (oz5 k1 hg), nI_add]
      exact fin _ (by unfold sw; rw [h, if_pos rfl])
def wv (kd wt s w : Nat → Nat) (z : Nat → Int32) (np p a : Nat) : Nat → Nat → Int32 → Int32
  | 0, _, acc => acc
  | d + 1, g, acc => wv kd wt s w z np p a d (g + 1) (if ft kd wt s w z np p g a 0 = true then acc ||| ((1 : Int32) <<< (nI g &&& 31)) else acc)
theorem weights4_loop (hP : RP mem np ns th bm tw kd wt mn sn) (hN : 300 ≤ N) {a : Nat} {s w : Nat → Nat} (hR : RN mem np a s w) {p : Nat} (hp : p < np) : ∀ (d n g : Nat) (acc : Int32), g + d = 21 → d < n → f_X4_weights_15 N n mem (nI p) acc (nI g) = some (wv kd wt s w (mem 39) np p a d g acc, mem) := by
  have h6 := hR.1
  intro d
  induction d with
  | zero =>
    intro n g acc hi hn
    obtain ⟨n, rfl⟩ : ∃ n', n = n' + 1 := ⟨n - 1, by omega⟩
    rw [f_X4_weights_15.eq_2, if_pos (show (20 : Int32) < nI g from nI_lt (a := 20) (b := g) (by omega) (by omega))]
    rfl
  | succ d ih =>
    intro n g acc hi hn
    obtain ⟨n, rfl⟩ : ∃ n', n = n' + 1 := ⟨n - 1, by omega⟩
    have hf : f_X4_fitsAllSeen N mem (nI p) (nI g) = some (b2i (ft kd wt s w (mem 39) np p g a 0), mem) := fits4 hP hN hR hp (by omega) a N 0 (by omega) (by omega)
    rw [f_X4_weights_15.eq_2, if_neg (show ¬ (20 : Int32) < nI g from nI_nlt (a := 20) (b := g) (by omega) (by omega)), zb_of hf, nI_1]
    unfold wv
    by_cases h : ft kd wt s w (mem 39) np p g a 0 = true
    · rw [h, if_neg (show ¬ b2i true = 0 by decide), if_pos rfl]
      exact ih n (g + 1) _ (by omega) (by omega)
    · rw [Bool.eq_false_iff.mpr h, if_pos (show b2i false = 0 from rfl), if_neg Bool.false_ne_true]
      exact ih n (g + 1) _ (by omega) (by omega)
theorem weights5_loop (hP : RP mem np ns th bm tw kd wt mn sn) (hN : 300 ≤ N) {a : Nat} {s w : Nat → Nat} (hR : RN mem np a s w) {p : Nat} (hp : p < np) : ∀ (d n g : Nat) (acc : Int32), g + d = 21 → d < n → f_X5_weights_15 N n mem (nI p) acc (nI g) = some (wv kd wt s w (mem 39) np p a d g acc, mem) := by
  have h6 := hR.1
  intro d
  induction d with
  | zero =>
    intro n g acc hi hn
    obtain ⟨n, rfl⟩ : ∃ n', n = n' + 1 := ⟨n - 1, by omega⟩
    rw [f_X5_weights_15.eq_2, if_pos (show (21 : Int32) ≤ nI g from nI_le (a := 21) (b := g) (by omega) (by omega))]
    rfl
  | succ d ih =>
    intro n g acc hi hn
    obtain ⟨n, rfl⟩ : ∃ n', n = n' + 1 := ⟨n - 1, by omega⟩
    have hf := fits5 hP hN hR hp (show g ≤ 20 by omega) (fun mem_716 x1_716 x2_716 x3_716 x4_716 => (if x4_716 = 0 then f_X5_weights_15 N n mem_716 x1_716 (x2_716 ||| (0 : Int32)) (x3_716 + 1) else f_X5_weights_15 N n mem_716 x1_716 (x2_716 ||| ((1 : Int32) <<< (x3_716 &&& 31))) (x3_716 + 1))) acc a N 0 true (by omega) (by omega)
    rw [f_X5_weights_15.eq_2, if_neg (show ¬ (21 : Int32) ≤ nI g from nI_ge (a := g) (b := 21) (by omega) (by omega))]
    refine Eq.trans hf ?_
    rw [Bool.true_and, nI_1]
    unfold wv
    by_cases h : ft kd wt s w (mem 39) np p g a 0 = true
    · rw [h, if_neg (show ¬ b2i true = 0 by decide), if_pos rfl]
      exact ih n (g + 1) _ (by omega) (by omega)
    · rw [Bool.eq_false_iff.mpr h, if_pos (show b2i false = 0 from rfl), if_neg Bool.false_ne_true, Int32.or_zero]
      exact ih n (g + 1) _ (by omega) (by omega)
/-- thumbs: only that both answer -/
theorem heard4 (hP : RP mem np ns th bm tw kd wt mn sn) (hN : 300 ≤ N) {b : Nat} {s v u lv : Nat → Nat} (hR : RH mem np b s v u lv) {t : Nat} (ht : t ≤ 9) : ∀ (d n i : Nat), i + d = b → d < n → ∃ r, f_X4_fitsAllHeard_2 N n mem (nI t) (nI i) = some (r, mem) := by
  have h8 := hP.1.1
  have h6 := hR.1
  intro d
  induction d with
  | zero =>
    intro n i hi hn
    obtain ⟨n, rfl⟩ : ∃ n', n = n' + 1 := ⟨n - 1, by omega⟩
    exact ⟨1, by rw [f_X4_fitsAllHeard_2.eq_2, hR.2.1, if_pos (nI_le (by omega) (by omega))]⟩
  | succ d ih =>
    intro n i hi hn
    obtain ⟨n, rfl⟩ : ∃ n', n = n' + 1 := ⟨n - 1, by omega⟩
    obtain ⟨r, hih⟩ := ih n (i + 1) (by omega) (by omega)
    obtain ⟨q1, q2, q3, q4, q5, q6, q7, q8, -⟩ := hR.2.2.2 i (by omega)
    have hs := s_256 hP q1
    have hle := ozS_le hP (S := s i) q3 np (Nat.le_refl _)
    rw [f_X4_fitsAllHeard_2.eq_2, hR.2.1, if_neg (nI_ge (by omega) (by omega)), zgd_t (zin_nI (by omega) (by omega)), zgd_t (zin_nI (by omega) (by omega)), nI_clamp (by omega), q5, q7, zb_of (ozS4 hP hN hs), zgd_t (zin_nI (by omega) (by omega)), nI_add, q6, zb_of (hg4 hP (show ozS kd wt (s i) (u i) np + t < 2 ^ 20 by omega) (show v i < 2 ^ 20 by omega)), zgd_t (zin_nI (by omega) (by omega)), nI_1]
    split
    · exact ⟨r, hih⟩
    · exact ⟨0, rfl⟩
theorem thumbs4_loop (hP : RP mem np ns th bm tw kd wt mn sn) (hN : 300 ≤ N) {b : Nat} {s v u lv : Nat → Nat} (hR : RH mem np b s v u lv) : ∀ (d n t : Nat) (acc : Int32), t + d = 10 → d < n → ∃ r, f_X4_thumbs_4 N n mem acc (nI t) = some (r, mem) := by
  have h6 := hR.1
  intro d
  induction d with
  | zero =>
    intro n t acc hi hn
    obtain ⟨n, rfl⟩ : ∃ n', n = n' + 1 := ⟨n - 1, by omega⟩
    exact ⟨acc, by rw [f_X4_thumbs_4.eq_2, if_pos (show (9 : Int32) < nI t from nI_lt (a := 9) (b := t) (by omega) (by omega))]⟩
  | succ d ih =>
    intro n t acc hi hn
    obtain ⟨n, rfl⟩ : ∃ n', n = n' + 1 := ⟨n - 1, by omega⟩
    obtain ⟨r, hr⟩ := heard4 hP hN hR (show t ≤ 9 by omega) b N 0 (by omega) (by omega)
    have hf : f_X4_fitsAllHeard N mem (nI t) = some (r, mem) := hr
    rw [f_X4_thumbs_4.eq_2, if_neg (show ¬ (9 : Int32) < nI t from nI_nlt (a := 9) (b := t) (by omega) (by omega)), zb_of hf, nI_1]
    split
    · exact ih n (t + 1) _ (by omega) (by omega)
    · exact ih n (t + 1) _ (by omega) (by omega)
theorem heard5 (hP : RP mem np ns th bm tw kd wt mn sn) (hW : RNow mem np ns pr pa we no sg) (hN : 300 ≤ N) {b : Nat} {s v u lv : Nat → Nat} (hR : RH mem np b s v u lv) {t : Nat} (ht : t ≤ 9) (k : zMem → Int32 → Int32 → Int32 → Option (Int32 × zMem)) (acc : Int32) : ∀ (d n i : Nat) (so : Int32), i + d = b → d < n → ∃ r, f_X5_thumbs_15 k N n mem acc (nI t) so (nI i) = k mem acc (nI t) r := by
  have h8 := hP.1.1
  have h6 := hR.1
  intro d
  induction d with
  | zero =>
    intro n i so hi hn
    obtain ⟨n, rfl⟩ : ∃ n', n = n' + 1 := ⟨n - 1, by omega⟩
    exact ⟨so, by rw [f_X5_thumbs_15.eq_2, hR.2.2.1, if_pos (nI_le (by omega) (by omega))]⟩
  | succ d ih =>
    intro n i so hi hn
    obtain ⟨n, rfl⟩ : ∃ n', n = n' + 1 := ⟨n - 1, by omega⟩
    obtain ⟨q1, q2, q3, q4, -, -, -, -, q5, q6, q7⟩ := hR.2.2.2 i (by omega)
    have hs := s_256 hP q1
    have hle := ozS_le hP (S := s i) hW.1.2.2.1 np (Nat.le_refl _)
    have c0 : (3 : Int32) * nI i = nI (3 * i) := pk_mul 3 i
    have c1 : nI (3 * i) + (1 : Int32) = nI (3 * i + 1) := nI_add (3 * i) 1
    have c2 : nI (3 * i) + (2 : Int32) = nI (3 * i + 2) := nI_add (3 * i) 2
    rw [f_X5_thumbs_15.eq_2, hR.2.2.1, if_neg (nI_ge (by omega) (by omega)), c0, zgd_t (zin_nI (by omega) (by omega)), nI_clamp (by omega), q5, show mem 48 (6 : Int32).toNatClampNeg = nI we from hW.2.2.1.2.2.1, zb_of (ozS5 hP hN hs), nI_1]
    by_cases h0 : so = 0
    · rw [if_pos h0]
      exact ih n (i + 1) 0 (by omega) (by omega)
    · rw [if_neg h0, c1, zgd_t (zin_nI (by omega) (by omega)), nI_clamp (by omega), q6, nI_add, zb_of (hg5 hP (by omega) (by omega)), c2, zgd_t (zin_nI (by omega) (by omega))]
      split <;> split <;> exact ih n (i + 1) _ (by omega) (by omega)
theorem thumbs5_loop (hP : RP mem np ns th bm tw kd wt mn sn) (hW : RNow mem np ns pr pa we no sg) (hN : 300 ≤ N) {b : Nat} {s v u lv : Nat → Nat} (hR : RH mem np b s v u lv) : ∀ (d n t : Nat) (acc : Int32), t + d = 10 → d < n → ∃ r, f_X5_thumbs_4 N n mem acc (nI t) = some (r, mem) := by
  have h6 := hR.1
  intro d
  induction d with
  | zero =>
    intro n t acc hi hn
    obtain ⟨n, rfl⟩ : ∃ n', n = n' + 1 := ⟨n - 1, by omega⟩
    exact ⟨acc, by rw [f_X5_thumbs_4.eq_2, if_pos (show (10 : Int32) ≤ nI t from nI_le (a := 10) (b := t) (by omega) (by omega))]⟩
  | succ d ih =>
    intro n t acc hi hn
    obtain ⟨n, rfl⟩ : ∃ n', n = n' + 1 := ⟨n - 1, by omega⟩
    obtain ⟨r, hr⟩ := heard5 hP hW hN hR (show t ≤ 9 by omega) (fun mem_868 x1_868 x2_868 x3_868 => (if x3_868 = 0 then f_X5_thumbs_4 N n mem_868 (x1_868 ||| (0 : Int32)) (x2_868 + 1) else f_X5_thumbs_4 N n mem_868 (x1_868 ||| ((1 : Int32) <<< (x2_868 &&& 31))) (x2_868 + 1))) acc b N 0 1 (by omega) (by omega)
    rw [f_X5_thumbs_4.eq_2, if_neg (show ¬ (10 : Int32) ≤ nI t from nI_ge (a := t) (b := 10) (by omega) (by omega))]
    obtain ⟨r', hr'⟩ : ∃ r', (if r = 0 then f_X5_thumbs_4 N n mem (acc ||| (0 : Int32)) (nI t + 1) else f_X5_thumbs_4 N n mem (acc ||| ((1 : Int32) <<< (nI t &&& 31))) (nI t + 1)) = some (r', mem) := by
      rw [nI_1]
      split
      · exact ih n (t + 1) _ (by omega) (by omega)
      · exact ih n (t + 1) _ (by omega) (by omega)
    exact ⟨r', hr.trans hr'⟩
/-- in how many ways just these confess -/
def wz (q S : Nat) : Nat → Nat
  | 0 => 1
  | k + 1 => wz q S k * (if S / 2 ^ k % 2 = 1 then q else 10 - q)
theorem wz_s (q S k : Nat) : wz q S (k + 1) = wz q S k * (if S / 2 ^ k % 2 = 1 then q else 10 - q) := rfl
def alN (q ns : Nat) : Nat → Nat
  | 0 => 0
  | m + 1 => alN q ns m + wz q m ns
def goN (q ns bm sm pa : Nat) (sg : Nat → Nat) : Nat → Nat
  | 0 => 0
  | m + 1 => goN q ns bm sm pa sg m + (if hg bm sm (slS sg m ns - pa) = 0 then 0 else wz q m ns)
theorem al_t : ∀ ns : Fin 7, ∀ q : Fin 11, alN q.val ns.val (2 ^ ns.val) = 10 ^ ns.val := by decide +kernel
theorem go_le (q ns bm sm pa : Nat) (sg : Nat → Nat) : ∀ m, goN q ns bm sm pa sg m ≤ alN q ns m := by
  intro m
  induction m with
  | zero => exact Nat.le_refl _
  | succ m ih =>
    unfold goN alN
    split <;> omega
theorem ways4 (hP : RP mem np ns th bm tw kd wt mn sn) {q S : Nat} (hq : q ≤ 10) (hS : S < 256) : ∀ (d n i : Nat), i + d = ns → d < n → f_X4_waysOfConfessing_5 N n mem (nI S) (nI q) (nI (wz q S i)) (nI i) = some (nI (wz q S ns), mem) := by
  have h6 := hP.1.2.1
  intro d
  induction d with
  | zero =>
    intro n i hi hn
    obtain ⟨n, rfl⟩ : ∃ n', n = n' + 1 := ⟨n - 1, by omega⟩
    have : i = ns := by omega
    subst this
    rw [f_X4_waysOfConfessing_5.eq_2, hP.2.1.2.1, if_pos (nI_le (Nat.le_refl _) (by omega))]
  | succ d ih =>
    intro n i hi hn
    obtain ⟨n, rfl⟩ : ∃ n', n = n' + 1 := ⟨n - 1, by omega⟩
    have hih := ih n (i + 1) (by omega) (by omega)
    rw [wz_s] at hih
    rw [f_X4_waysOfConfessing_5.eq_2, hP.2.1.2.1, if_neg (nI_ge (by omega) (by omega)), zb_of (isIn_spec hS (by omega)), nI_1, show (10 : Int32) - nI q = nI (10 - q) from pk_sub (a := 10) hq, pk_mul, pk_mul]
    rcases bit_01 S i with h | h
    · rw [h, if_neg (by decide)] at hih
      rw [h, if_pos (show nI 0 = 0 from rfl)]
      exact hih
    · rw [h, if_pos rfl] at hih
      rw [h, if_neg (show ¬ nI 1 = 0 by decide)]
      exact hih
def eu : Nat → Nat → Nat → Nat
  | 0, a, _ => a
  | d + 1, a, b => if b = 0 then a else eu d b (a % b)
theorem eu_gcd : ∀ (k d a b : Nat), b < 2 ^ k → 2 * k + 1 ≤ d → eu d a b = Nat.gcd a b := by
  intro k
  induction k with
  | zero =>
    intro d a b hb hd
    obtain ⟨d, rfl⟩ : ∃ d', d = d' + 1 := ⟨d - 1, by omega⟩
    unfold eu
    have : b = 0 := by
      have : (2 : Nat) ^ 0 = 1 := rfl
      omega
    rw [if_pos this, this, Nat.gcd_zero_right]
  | succ k ih =>
    intro d a b hb hd
    obtain ⟨d, rfl⟩ : ∃ d', d = d' + 2 := ⟨d - 2, by omega⟩
    have e1 : eu (d + 2) a b = if b = 0 then a else eu (d + 1) b (a % b) := rfl
    rw [e1]
    by_cases h0 : b = 0
    · rw [if_pos h0, h0, Nat.gcd_zero_right]
    · rw [if_neg h0]
      have g1 : Nat.gcd a b = Nat.gcd b (a % b) := by rw [Nat.gcd_comm a b, Nat.gcd_rec b a, Nat.gcd_comm]
      have hr : a % b < b := Nat.mod_lt _ (by omega)
      have e2 : eu (d + 1) b (a % b) = if a % b = 0 then b else eu d (a % b) (b % (a % b)) := rfl
      rw [e2, g1]
      by_cases h1 : a % b = 0
      · rw [if_pos h1, h1, Nat.gcd_zero_right]
      · rw [if_neg h1]
        have g2 : Nat.gcd b (a % b) = Nat.gcd (a % b) (b % (a % b)) := by rw [Nat.gcd_comm b (a % b), Nat.gcd_rec (a % b) b, Nat.gcd_comm]
        have h2 : b % (a % b) < a % b := Nat.mod_lt _ (by omega)
        have h3 : b % (a % b) + a % b ≤ b := by
          have h4 := Nat.div_add_mod b (a % b)
          have h5 : 1 ≤ b / (a % b) := Nat.div_pos (by omega) (by omega)
          have h6 : (a % b) * 1 ≤ (a % b) * (b / (a % b)) := Nat.mul_le_mul_left _ h5
          omega
        have h7 : (2 : Nat) ^ (k + 1) = 2 * 2 ^ k := by rw [Nat.pow_succ, Nat.mul_comm]
        rw [g2]
        exact ih d (a % b) (b % (a % b)) (by omega) (by omega)
theorem gdiv4 : ∀ (d n i a b : Nat), i + d = 64 → d < n → a < 2 ^ 31 → b < 2 ^ 31 → f_X4_greatestDivisor_7 N n mem (nI a) (nI b) (nI i) = some (nI (eu d a b), mem) := by
  intro d
  induction d with
  | zero =>
    intro n i a b hi hn ha hb
    obtain ⟨n, rfl⟩ : ∃ n', n = n' + 1 := ⟨n - 1, by omega⟩
    rw [f_X4_greatestDivisor_7.eq_2, if_pos (show (64 : Int32) ≤ nI i from nI_le (a := 64) (b := i) (by omega) (by omega))]
    rfl
  | succ d ih =>
    intro n i a b hi hn ha hb
    obtain ⟨n, rfl⟩ : ∃ n', n = n' + 1 := ⟨n - 1, by omega⟩
    rw [f_X4_greatestDivisor_7.eq_2, if_neg (show ¬ (64 : Int32) ≤ nI i from nI_ge (a := i) (b := 64) (by omega) (by omega))]
    unfold eu
    by_cases h : b = 0
    · rw [if_pos h, if_pos (show nI b = 0 by rw [h]; rfl)]
    · have hb0 : ¬ nI b = 0 := nI_ne0 (by omega) hb
      rw [if_neg h, if_neg hb0, zgd_t (show znz (nI b) = true by unfold znz; rw [decide_eq_false hb0]; rfl), pk_rem ha (by omega) hb, nI_1]
      have hm : a % b < b := Nat.mod_lt _ (by omega)
      exact ih n (i + 1) b (a % b) (by omega) (by omega) hb (by omega)
theorem euc5 {x3 x4 what : Int32} : ∀ (k n a b : Nat), b < 2 ^ k → 2 * k + 1 < n → a < 2 ^ 31 → b < 2 ^ 31 → 0 < Nat.gcd a b → f_X5_confessed_212 N n mem what x3 x4 (nI a) (nI b) = some (if what = 0 then x3 / nI (Nat.gcd a b) else x4 / nI (Nat.gcd a b), mem) := by
  have fin : ∀ (n a b : Nat), a < 2 ^ 31 → b = 0 → 0 < Nat.gcd a b → f_X5_confessed_212 N (n + 1) mem what x3 x4 (nI a) (nI b) = some (if what = 0 then x3 / nI (Nat.gcd a b) else x4 / nI (Nat.gcd a b), mem) := by
    intro n a b ha hb hg
    subst hb
    rw [Nat.gcd_zero_right] at hg ⊢
    have hz : znz (nI a) = true := by unfold znz; rw [decide_eq_false (nI_ne0 hg ha)]; rfl
    rw [f_X5_confessed_212.eq_2, if_pos (show nI 0 ≤ (0 : Int32) by decide), zgd_t hz, zgd_t hz]
    split <;> rfl
  have step : ∀ (n a b : Nat), a < 2 ^ 31 → b < 2 ^ 31 → b ≠ 0 → f_X5_confessed_212 N (n + 1) mem what x3 x4 (nI a) (nI b) = f_X5_confessed_212 N n mem what x3 x4 (nI b) (nI (a % b)) := by
    intro n a b ha hb h0
    have hz : znz (nI b) = true := by unfold znz; rw [decide_eq_false (nI_ne0 (by omega) hb)]; rfl
    rw [f_X5_confessed_212.eq_2, if_neg (show ¬ nI b ≤ 0 from nI_nle (by omega) hb), zgd_t hz, pk_rem ha (by omega) hb]
  intro k
  induction k with
  | zero =>
    intro n a b hb hn ha hb2 hg
    obtain ⟨n, rfl⟩ : ∃ n', n = n' + 1 := ⟨n - 1, by omega⟩
    exact fin n a b ha (by have : (2 : Nat) ^ 0 = 1 := rfl; omega) hg
  | succ k ih =>
    intro n a b hb hn ha hb2 hg
    obtain ⟨n, rfl⟩ : ∃ n', n = n' + 2 := ⟨n - 2, by omega⟩
    by_cases h0 : b = 0
    · exact fin (n + 1) a b ha h0 hg
    · have g1 : Nat.gcd a b = Nat.gcd b (a % b) := by rw [Nat.gcd_comm a b, Nat.gcd_rec b a, Nat.gcd_comm]
      have hr : a % b < b := Nat.mod_lt _ (by omega)
      rw [step (n + 1) a b ha hb2 h0]
      rw [g1] at hg ⊢
      by_cases h1 : a % b = 0
      · exact fin n b (a % b) hb2 h1 hg
      · have g2 : Nat.gcd b (a % b) = Nat.gcd (a % b) (b % (a % b)) := by rw [Nat.gcd_comm b (a % b), Nat.gcd_rec (a % b) b, Nat.gcd_comm]
        have h2 : b % (a % b) < a % b := Nat.mod_lt _ (by omega)
        have h3 : b % (a % b) + a % b ≤ b := by
          have h4 := Nat.div_add_mod b (a % b)
          have h5 : 1 ≤ b / (a % b) := Nat.div_pos (by omega) (by omega)
          have h6 : (a % b) * 1 ≤ (a % b) * (b / (a % b)) := Nat.mul_le_mul_left _ h5
          omega
        have h7 : (2 : Nat) ^ (k + 1) = 2 * 2 ^ k := by rw [Nat.pow_succ, Nat.mul_comm]
        rw [step n b (a % b) hb2 (by omega) h1]
        rw [g2] at hg ⊢
        exact ih n (a % b) (b % (a % b)) (by omega) (by omega) (by omega) (by omega) hg
/-- the answer of 'confessed' -/
def cfN (q ns bm sm pa : Nat) (sg : Nat → Nat) (what : Int32) : Int32 := if what = 0 then nI (goN q ns bm sm pa sg (2 ^ ns)) / nI (Nat.gcd (goN q ns bm sm pa sg (2 ^ ns)) (10 ^ ns)) else nI (10 ^ ns) / nI (Nat.gcd (goN q ns bm sm pa sg (2 ^ ns)) (10 ^ ns))
theorem ten_le {ns : Nat} (h : ns ≤ 6) : 10 ^ ns ≤ 1000000 := Nat.pow_le_pow_right (n := 10) (by omega) h
theorem confessed4_loop (hP : RP mem np ns th bm tw kd wt mn sn) (hW : RNow mem np ns pr pa we no sg) (hN : 300 ≤ N) {q sm : Nat} (hq : q ≤ 10) (hsm : sm < 2 ^ 20) (what : Int32) : ∀ (d n S : Nat), S + d = 2 ^ ns → d < n → f_X4_confessed_43 N n mem (nI q) what (nI sm) (nI (goN q ns bm sm pa sg S)) (nI (alN q ns S)) (nI S) = some (cfN q ns bm sm pa sg what, mem) := by
  have h6 := hP.1.2.1
  have h64 : 2 ^ ns ≤ 64 := Nat.pow_le_pow_right (n := 2) (by omega) h6
  have hal := al_t ⟨ns, by omega⟩ ⟨q, by omega⟩
  have hal : alN q ns (2 ^ ns) = 10 ^ ns := hal
  have hgl := go_le q ns bm sm pa sg (2 ^ ns)
  have ht := ten_le h6
  intro d
  induction d with
  | zero =>
    intro n S hS hn
    obtain ⟨n, rfl⟩ : ∃ n', n = n' + 1 := ⟨n - 1, by omega⟩
    have : S = 2 ^ ns := by omega
    subst this
    have hgp : 0 < Nat.gcd (goN q ns bm sm pa sg (2 ^ ns)) (10 ^ ns) := Nat.gcd_pos_of_pos_right _ (Nat.pow_pos (by omega))
    have hgb : Nat.gcd (goN q ns bm sm pa sg (2 ^ ns)) (10 ^ ns) ≤ 10 ^ ns := Nat.gcd_le_right _ (Nat.pow_pos (by omega))
    have hgd : f_X4_greatestDivisor N mem (nI (goN q ns bm sm pa sg (2 ^ ns))) (nI (10 ^ ns)) = some (nI (Nat.gcd (goN q ns bm sm pa sg (2 ^ ns)) (10 ^ ns)), mem) := by
      have h := gdiv4 (N := N) (mem := mem) 64 N 0 (goN q ns bm sm pa sg (2 ^ ns)) (10 ^ ns) (by omega) (by omega) (by omega) (by omega)
      rw [eu_gcd 20 64 _ _ (by omega) (by omega)] at h
      exact h
    have h1 : ¬ nI (Nat.gcd (goN q ns bm sm pa sg (2 ^ ns)) (10 ^ ns)) < (1 : Int32) := nI_nlt (a := Nat.gcd (goN q ns bm sm pa sg (2 ^ ns)) (10 ^ ns)) (b := 1) (by omega) (by omega)
    have hz : znz (nI (Nat.gcd (goN q ns bm sm pa sg (2 ^ ns)) (10 ^ ns))) = true := by unfold znz; rw [decide_eq_false (nI_ne0 hgp (by omega))]; rfl
    rw [f_X4_confessed_43.eq_2, hP.2.1.2.1, sh_e (by omega), if_pos (nI_le (Nat.le_refl _) (by omega)), hal, zb_of hgd, if_neg h1, zgd_t hz, zgd_t hz]
    unfold cfN
    split <;> rfl
  | succ d ih =>
    intro n S hS hn
    obtain ⟨n, rfl⟩ : ∃ n', n = n' + 1 := ⟨n - 1, by omega⟩
    have hih := ih n (S + 1) (by omega) (by omega)
    have hw : f_X4_waysOfConfessing N mem (nI S) (nI q) = some (nI (wz q S ns), mem) := ways4 hP hq (by omega) ns N 0 (by omega) (by omega)
    rw [f_X4_confessed_43.eq_2, hP.2.1.2.1, sh_e (by omega), if_neg (nI_ge (by omega) (by omega)), zb_of hw, zb_of (lead4 hP hW hN (by omega)), zb_of (hg4 hP hsm (ldN_le hP hW)), nI_add, nI_add, nI_1]
    have e1 : alN q ns (S + 1) = alN q ns S + wz q S ns := rfl
    have e2 : goN q ns bm sm pa sg (S + 1) = goN q ns bm sm pa sg S + (if hg bm sm (slS sg S ns - pa) = 0 then 0 else wz q S ns) := rfl
    rw [e1, e2] at hih
    rcases hg_01 bm sm (slS sg S ns - pa) with h | h
    · rw [h, if_pos rfl, Nat.add_zero] at hih
      rw [h, if_pos (show nI 0 = 0 from rfl)]
      exact hih
    · rw [h, if_neg (by decide)] at hih
      rw [h, if_neg (show ¬ nI 1 = 0 by decide)]
      exact hih
theorem ways5 (hP : RP mem np ns th bm tw kd wt mn sn) (hW : RNow mem np ns pr pa we no sg) {q S : Nat} (hq : q ≤ 10) (hS : S < 256) (k : zMem → Int32 → Int32 → Int32 → Int32 → Int32 → Int32 → Int32 → Option (Int32 × zMem)) (x2 x3 x4 : Int32) : ∀ (d n i : Nat), i + d = ns → d < n → f_X5_confessed_79 k N n mem (nI q) x2 x3 x4 (nI S) (nI (wz q S i)) (nI (slS sg S i)) (nI i) = k mem (nI q) x2 x3 x4 (nI S) (nI (wz q S ns)) (nI (slS sg S ns)) := by
  have h6 := hP.1.2.1
  intro d
  induction d with
  | zero =>
    intro n i hi hn
    obtain ⟨n, rfl⟩ : ∃ n', n = n' + 1 := ⟨n - 1, by omega⟩
    have : i = ns := by omega
    subst this
    rw [f_X5_confessed_79.eq_2, show mem 46 (1 : Int32).toNatClampNeg = nI i from hP.2.2.1.2.1, if_pos (nI_le (Nat.le_refl _) (by omega))]
  | succ d ih =>
    intro n i hi hn
    obtain ⟨n, rfl⟩ : ∃ n', n = n' + 1 := ⟨n - 1, by omega⟩
    obtain ⟨-, -, q1⟩ := hW.2.2.2.2 i (by omega)
    have hih := ih n (i + 1) (by omega) (by omega)
    rw [wz_s, slS_s] at hih
    rw [f_X5_confessed_79.eq_2, show mem 46 (1 : Int32).toNatClampNeg = nI ns from hP.2.2.1.2.1, if_neg (nI_ge (by omega) (by omega)), bit_e hS (by omega), nI_1]
    rcases bit_01 S i with h | h
    · rw [h, if_neg (by decide), if_neg (by decide)] at hih
      rw [h, if_neg (show ¬ nI 0 = 1 by decide), if_pos rfl, if_pos rfl, zgd_t (zin_nI (by omega) (by omega)), nI_clamp (by omega), q1, show (10 : Int32) - nI q = nI (10 - q) from pk_sub (a := 10) hq, pk_mul, nI_add]
      exact hih
    · rw [h, if_pos rfl, if_pos rfl, Nat.add_zero] at hih
      rw [h, if_pos (show nI 1 = 1 from rfl), if_neg (show ¬ (1 : Int32) = 0 by decide), if_neg (show ¬ (1 : Int32) = 0 by decide), pk_mul, show nI (slS sg S i) + (0 : Int32) = nI (slS sg S i) from nI_add _ 0]
      exact hih
theorem confessed5_loop (hP : RP mem np ns th bm tw kd wt mn sn) (hW : RNow mem np ns pr pa we no sg) (hN : 300 ≤ N) {q : Nat} (hq : q ≤ 10) (what : Int32) : ∀ (d n S : Nat), S + d = 2 ^ ns → d < n → f_X5_confessed_57 N n mem (nI q) what (nI (goN q ns bm (smN kd wt np we th pr) pa sg S)) (nI (10 ^ ns)) (nI S) = some (cfN q ns bm (smN kd wt np we th pr) pa sg what, mem) := by
  have h6 := hP.1.2.1
  have h64 : 2 ^ ns ≤ 64 := Nat.pow_le_pow_right (n := 2) (by omega) h6
  have hal : alN q ns (2 ^ ns) = 10 ^ ns := al_t ⟨ns, by omega⟩ ⟨q, by omega⟩
  have hgl := go_le q ns bm (smN kd wt np we th pr) pa sg (2 ^ ns)
  have ht := ten_le h6
  have hsm := smN_le hP (S := pr) hW.1.2.2.1
  intro d
  induction d with
  | zero =>
    intro n S hS hn
    obtain ⟨n, rfl⟩ : ∃ n', n = n' + 1 := ⟨n - 1, by omega⟩
    have : S = 2 ^ ns := by omega
    subst this
    have hgp : 0 < Nat.gcd (goN q ns bm (smN kd wt np we th pr) pa sg (2 ^ ns)) (10 ^ ns) := Nat.gcd_pos_of_pos_right _ (Nat.pow_pos (by omega))
    rw [f_X5_confessed_57.eq_2, show mem 46 (1 : Int32).toNatClampNeg = nI ns from hP.2.2.1.2.1, sh_e (by omega), if_pos (nI_le (Nat.le_refl _) (by omega)), euc5 20 N _ _ (by omega) (by omega) (by omega) (by omega) hgp]
    rfl
  | succ d ih =>
    intro n S hS hn
    obtain ⟨n, rfl⟩ : ∃ n', n = n' + 1 := ⟨n - 1, by omega⟩
    have hih := ih n (S + 1) (by omega) (by omega)
    have e2 : goN q ns bm (smN kd wt np we th pr) pa sg (S + 1) = goN q ns bm (smN kd wt np we th pr) pa sg S + (if hg bm (smN kd wt np we th pr) (slS sg S ns - pa) = 0 then 0 else wz q S ns) := rfl
    rw [e2] at hih
    rw [f_X5_confessed_57.eq_2, show mem 46 (1 : Int32).toNatClampNeg = nI ns from hP.2.2.1.2.1, sh_e (by omega), if_neg (nI_ge (by omega) (by omega))]
    refine (ways5 hP hW hq (show S < 256 by omega) _ what _ _ ns N 0 (by omega) (by omega)).trans ?_
    have hld := ldN_le hP hW (C := S)
    have hpa : mem 48 (8 : Int32).toNatClampNeg = nI pa := hW.2.2.1.2.1
    have hsl := slS_le hW (C := S) ns (Nat.le_refl _)
    have hpa9 := hW.1.2.1
    show zb (f_X5_sermon N mem) _ = _
    rw [zb_of (sermon5 hP hW hN), hpa]
    by_cases hc : slS sg S ns ≤ pa
    · rw [if_pos (nI_le hc (by omega))]
      have e0 : slS sg S ns - pa = 0 := by omega
      rw [e0] at hih
      rw [zb_of (show f_X5_hangs N mem (nI (smN kd wt np we th pr)) (0 : Int32) = _ from hg5 hP hsm (b := 0) (by omega)), nI_1]
      rcases hg_01 bm (smN kd wt np we th pr) 0 with h | h
      · rw [h, if_pos rfl] at hih
        rw [h, if_pos (show nI 0 = 0 from rfl), show (0 : Int32) = nI 0 from rfl, nI_add]
        exact hih
      · rw [h, if_neg (by decide)] at hih
        rw [h, if_neg (show ¬ nI 1 = 0 by decide), nI_add]
        exact hih
    · rw [if_neg (nI_ge (by omega) (by omega)), pk_sub (by omega), zb_of (hg5 hP hsm hld), nI_1]
      rcases hg_01 bm (smN kd wt np we th pr) (slS sg S ns - pa) with h | h
      · rw [h, if_pos rfl] at hih
        rw [h, if_pos (show nI 0 = 0 from rfl), show (0 : Int32) = nI 0 from rfl, nI_add]
        exact hih
      · rw [h, if_neg (by decide)] at hih
        rw [h, if_neg (show ¬ nI 1 = 0 by decide), nI_add]
        exact hih
theorem ten5 (hP : RP mem np ns th bm tw kd wt mn sn) (q what x3 : Int32) : ∀ (d n i : Nat), i + d = ns → d < n → f_X5_confessed_30 N n mem q what x3 (nI (10 ^ i)) (nI i) = f_X5_confessed_57 N N mem q what x3 (nI (10 ^ ns)) 0 := by
  have h6 := hP.1.2.1
  intro d
  induction d with
  | zero =>
    intro n i hi hn
    obtain ⟨n, rfl⟩ : ∃ n', n = n' + 1 := ⟨n - 1, by omega⟩
    have : i = ns := by omega
    subst this
    rw [f_X5_confessed_30.eq_2, show mem 46 (1 : Int32).toNatClampNeg = nI i from hP.2.2.1.2.1, if_pos (nI_le (Nat.le_refl _) (by omega))]
  | succ d ih =>
    intro n i hi hn
    obtain ⟨n, rfl⟩ : ∃ n', n = n' + 1 := ⟨n - 1, by omega⟩
    have hih := ih n (i + 1) (by omega) (by omega)
    rw [f_X5_confessed_30.eq_2, show mem 46 (1 : Int32).toNatClampNeg = nI ns from hP.2.2.1.2.1, if_neg (nI_ge (by omega) (by omega)), show nI (10 ^ i) * (10 : Int32) = nI (10 ^ i * 10) from pk_mul _ 10, ← Nat.pow_succ, nI_1]
    exact hih
end GE
