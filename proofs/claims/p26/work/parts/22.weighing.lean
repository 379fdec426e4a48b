/-! THE WEIGHING, in plain numbers: what the parts weigh, the lead, whether it hangs level; both sides' functions say these -/
theorem bit_t : ∀ S : Fin 256, ∀ k : Fin 8, ((nI S.val >>> (nI k.val &&& 31)) &&& (1 : Int32)) = nI (S.val / 2 ^ k.val % 2) := by decide +kernel
theorem bit_e {S k : Nat} (hS : S < 256) (hk : k < 8) : ((nI S >>> (nI k &&& 31)) &&& (1 : Int32)) = nI (S / 2 ^ k % 2) := bit_t ⟨S, hS⟩ ⟨k, hk⟩
theorem bit_01 (S k : Nat) : S / 2 ^ k % 2 = 0 ∨ S / 2 ^ k % 2 = 1 := by omega
theorem isIn_spec {N : Nat} {mem : zMem} {S k : Nat} (hS : S < 256) (hk : k < 8) : f_X4_isIn N mem (nI k) (nI S) = some (nI (S / 2 ^ k % 2), mem) := by
  unfold f_X4_isIn
  rw [bit_e hS hk]
  rcases bit_01 S k with h | h <;> rw [h] <;> rfl
def oz (kd wt w : Nat) : Nat := if kd = 1 then wt + w else if kd = 2 then wt / 2 else if kd = 3 then 0 else wt
theorem oz_le {kd wt w : Nat} (h1 : wt ≤ 20) (h2 : w ≤ 9) : oz kd wt w ≤ 29 := by
  unfold oz
  split
  · omega
  · split
    · omega
    · split <;> omega
theorem k3_cases {kd : Nat} (h : kd ≤ 3) : kd = 0 ∨ kd = 1 ∨ kd = 2 ∨ kd = 3 := by omega
theorem oz4 {N : Nat} {mem : zMem} {kd wt w : Nat} (hk : kd ≤ 3) (hw : wt ≤ 20) : f_X4_ouncesOf N mem (nI kd) (nI wt) (nI w) = some (nI (oz kd wt w), mem) := by
  unfold f_X4_ouncesOf
  rcases k3_cases hk with rfl | rfl | rfl | rfl
  · rfl
  · rw [if_pos (show nI 1 = 1 from rfl), nI_add]
    rfl
  · rw [if_neg (by decide), if_pos (show nI 2 = 2 from rfl), show (2 : Int32) = nI 2 from rfl, pk_div (by omega) (by omega) (by omega)]
    rfl
  · rfl
theorem oz5 {N : Nat} {mem : zMem} {kd wt w : Nat} (hk : kd ≤ 3) (hw : wt ≤ 20) : f_X5_weighs N mem (nI kd) (nI wt) (nI w) = some (nI (oz kd wt w), mem) := by
  unfold f_X5_weighs
  rcases k3_cases hk with rfl | rfl | rfl | rfl
  · rfl
  · rw [if_neg (by decide), if_neg (by decide), if_pos (show nI 1 = 1 from rfl), nI_add]
    rfl
  · rw [if_neg (by decide), if_pos (show nI 2 = 2 from rfl), show (2 : Int32) = nI 2 from rfl, pk_div (by omega) (by omega) (by omega)]
    rfl
  · rfl
/-- the parish: what was told, in the class's rows and in the reference's row -/
def RP (mem : zMem) (np ns th bm tw : Nat) (kd wt mn sn : Nat → Nat) : Prop :=
  (np ≤ 8 ∧ ns ≤ 6 ∧ th ≤ 9 ∧ bm ≤ 5 ∧ tw ≤ 9) ∧ (mem 6 4 = nI np ∧ mem 6 5 = nI ns ∧ mem 6 6 = nI th ∧ mem 6 7 = nI bm ∧ mem 6 8 = nI tw) ∧
  (mem 46 0 = nI np ∧ mem 46 1 = nI ns ∧ mem 46 2 = nI th ∧ mem 46 3 = nI bm ∧ mem 46 4 = nI tw) ∧
  (∀ k, k < np → kd k ≤ 3 ∧ wt k ≤ 20 ∧ (1 ≤ mn k ∧ mn k ≤ 30) ∧ mem 7 k = nI (kd k) ∧ mem 8 k = nI (wt k) ∧ mem 9 k = nI (mn k) ∧ mem 46 (5 + k) = nI (kd k) ∧ mem 46 (13 + k) = nI (wt k) ∧ mem 46 (21 + k) = nI (mn k)) ∧
  (∀ k, k < ns → sn k ≤ 40 ∧ mem 10 k = nI (sn k) ∧ mem 46 (29 + k) = nI (sn k))
def ozS (kd wt : Nat → Nat) (S w : Nat) : Nat → Nat
  | 0 => 0
  | k + 1 => ozS kd wt S w k + (if S / 2 ^ k % 2 = 1 then oz (kd k) (wt k) w else 0)
def mnS (mn : Nat → Nat) (S : Nat) : Nat → Nat
  | 0 => 0
  | k + 1 => mnS mn S k + (if S / 2 ^ k % 2 = 1 then mn k else 0)
theorem ozS_s (kd wt : Nat → Nat) (S w k : Nat) : ozS kd wt S w (k + 1) = ozS kd wt S w k + (if S / 2 ^ k % 2 = 1 then oz (kd k) (wt k) w else 0) := rfl
theorem mnS_s (mn : Nat → Nat) (S k : Nat) : mnS mn S (k + 1) = mnS mn S k + (if S / 2 ^ k % 2 = 1 then mn k else 0) := rfl
section GA
variable {N : Nat} {mem : zMem} {np ns th bm tw : Nat} {kd wt mn sn : Nat → Nat}
theorem ozS_le (hP : RP mem np ns th bm tw kd wt mn sn) {S w : Nat} (hw : w ≤ 9) : ∀ k, k ≤ np → ozS kd wt S w k ≤ 29 * k := by
  intro k
  induction k with
  | zero => intro _; exact Nat.le_refl _
  | succ k ih =>
    intro hk
    have h1 := ih (by omega)
    have h2 := oz_le (kd := kd k) (hP.2.2.2.1 k (by omega)).2.1 hw
    unfold ozS
    split <;> omega
theorem ozS4_loop (hP : RP mem np ns th bm tw kd wt mn sn) {S w : Nat} (hS : S < 256) : ∀ (d n i : Nat), i + d = np → d < n → f_X1_ouncesOfSet_5 N n mem (nI S) (nI w) (nI (ozS kd wt S w i)) (nI i) = some (nI (ozS kd wt S w np), mem) := by
  obtain ⟨⟨h8, -⟩, ⟨e4, -⟩, -, hk, -⟩ := hP
  intro d
  induction d with
  | zero =>
    intro n i hi hn
    obtain ⟨n, rfl⟩ : ∃ n', n = n' + 1 := ⟨n - 1, by omega⟩
    have : i = np := by omega
    subst this
    rw [f_X1_ouncesOfSet_5.eq_2, e4, if_pos (nI_le (Nat.le_refl _) (by omega))]
  | succ d ih =>
    intro n i hi hn
    obtain ⟨n, rfl⟩ : ∃ n', n = n' + 1 := ⟨n - 1, by omega⟩
    obtain ⟨q1, q2, -, q3, q4, -⟩ := hk i (by omega)
    have hih := ih n (i + 1) (by omega) (by omega)
    rw [f_X1_ouncesOfSet_5.eq_2, e4, if_neg (nI_ge (by omega) (by omega)), zb_of (isIn_spec hS (by omega)), nI_1]
    rw [ozS_s] at hih
    rcases bit_01 S i with h | h
    · rw [h, if_neg (by decide), Nat.add_zero] at hih
      rw [h, if_pos (show nI 0 = 0 from rfl)]
      exact hih
    · rw [h, if_pos rfl] at hih
      rw [h, if_neg (show ¬ nI 1 = 0 by decide), zgd_t (zin_nI (by omega) (by omega)), zgd_t (zin_nI (by omega) (by omega)), nI_clamp (by omega), q3, q4, zb_of (oz4 q1 q2), nI_add]
      exact hih
theorem ozS4 (hP : RP mem np ns th bm tw kd wt mn sn) (hN : 300 ≤ N) {S w : Nat} (hS : S < 256) : f_X1_ouncesOfSet N mem (nI S) (nI w) = some (nI (ozS kd wt S w np), mem) :=
  ozS4_loop hP hS np N 0 (by omega) (by have := hP.1.1; omega)
theorem ounces5 (hP : RP mem np ns th bm tw kd wt mn sn) {k w : Nat} (hk : k < np) : f_X5_ounces N mem (nI k) (nI w) = some (nI (oz (kd k) (wt k) w), mem) := by
  have h8 := hP.1.1
  obtain ⟨q1, q2, -, -, -, -, q3, q4, -⟩ := hP.2.2.2.1 k hk
  unfold f_X5_ounces
  rw [show (5 : Int32) + nI k = nI (5 + k) from nI_add 5 k, show (13 : Int32) + nI k = nI (13 + k) from nI_add 13 k, zgd_t (zin_nI (by omega) (by omega)), zgd_t (zin_nI (by omega) (by omega)), nI_clamp (by omega), nI_clamp (by omega), q3, q4, zb_of (oz5 q1 q2)]
theorem ozS5_loop (hP : RP mem np ns th bm tw kd wt mn sn) {S w : Nat} (hS : S < 256) : ∀ (d n i : Nat), i + d = np → d < n → f_X5_ouncesOf_5 N n mem (nI S) (nI w) (nI (ozS kd wt S w i)) (nI i) = some (nI (ozS kd wt S w np), mem) := by
  have h8 := hP.1.1
  have e4 := hP.2.2.1.1
  intro d
  induction d with
  | zero =>
    intro n i hi hn
    obtain ⟨n, rfl⟩ : ∃ n', n = n' + 1 := ⟨n - 1, by omega⟩
    have : i = np := by omega
    subst this
    rw [f_X5_ouncesOf_5.eq_2, show mem 46 (0 : Int32).toNatClampNeg = nI i from e4, if_pos (nI_le (Nat.le_refl _) (by omega))]
  | succ d ih =>
    intro n i hi hn
    obtain ⟨n, rfl⟩ : ∃ n', n = n' + 1 := ⟨n - 1, by omega⟩
    have hih := ih n (i + 1) (by omega) (by omega)
    rw [f_X5_ouncesOf_5.eq_2, show mem 46 (0 : Int32).toNatClampNeg = nI np from e4, if_neg (nI_ge (by omega) (by omega)), bit_e hS (by omega), nI_1]
    rw [ozS_s] at hih
    rcases bit_01 S i with h | h
    · rw [h, if_neg (by decide), Nat.add_zero] at hih
      rw [h, if_neg (show ¬ nI 0 = 1 by decide), show (0 : Int32) = nI 0 from rfl, nI_add, Nat.add_zero]
      exact hih
    · rw [h, if_pos rfl] at hih
      rw [h, if_pos (show nI 1 = 1 from rfl), zb_of (ounces5 hP (by omega)), nI_add]
      exact hih
theorem ozS5 (hP : RP mem np ns th bm tw kd wt mn sn) (hN : 300 ≤ N) {S w : Nat} (hS : S < 256) : f_X5_ouncesOf N mem (nI S) (nI w) = some (nI (ozS kd wt S w np), mem) :=
  ozS5_loop hP hS np N 0 (by omega) (by have := hP.1.1; omega)
theorem mnS4_loop (hP : RP mem np ns th bm tw kd wt mn sn) {S : Nat} (hS : S < 256) : ∀ (d n i : Nat), i + d = np → d < n → f_X1_minutesOf_4 N n mem (nI S) (nI (mnS mn S i)) (nI i) = some (nI (mnS mn S np), mem) := by
  obtain ⟨⟨h8, -⟩, ⟨e4, -⟩, -, hk, -⟩ := hP
  intro d
  induction d with
  | zero =>
    intro n i hi hn
    obtain ⟨n, rfl⟩ : ∃ n', n = n' + 1 := ⟨n - 1, by omega⟩
    have : i = np := by omega
    subst this
    rw [f_X1_minutesOf_4.eq_2, e4, if_pos (nI_le (Nat.le_refl _) (by omega))]
  | succ d ih =>
    intro n i hi hn
    obtain ⟨n, rfl⟩ : ∃ n', n = n' + 1 := ⟨n - 1, by omega⟩
    obtain ⟨-, -, -, -, -, q5, -⟩ := hk i (by omega)
    have hih := ih n (i + 1) (by omega) (by omega)
    rw [f_X1_minutesOf_4.eq_2, e4, if_neg (nI_ge (by omega) (by omega)), zb_of (isIn_spec hS (by omega)), nI_1]
    rw [mnS_s] at hih
    rcases bit_01 S i with h | h
    · rw [h, if_neg (by decide), Nat.add_zero] at hih
      rw [h, if_pos (show nI 0 = 0 from rfl)]
      exact hih
    · rw [h, if_pos rfl] at hih
      rw [h, if_neg (show ¬ nI 1 = 0 by decide), zgd_t (zin_nI (by omega) (by omega)), nI_clamp (by omega), q5, nI_add]
      exact hih
theorem mnS4 (hP : RP mem np ns th bm tw kd wt mn sn) (hN : 300 ≤ N) {S : Nat} (hS : S < 256) : f_X1_minutesOf N mem (nI S) = some (nI (mnS mn S np), mem) :=
  mnS4_loop hP hS np N 0 (by omega) (by have := hP.1.1; omega)
theorem mnS5_loop (hP : RP mem np ns th bm tw kd wt mn sn) {S : Nat} (hS : S < 256) : ∀ (d n i : Nat), i + d = np → d < n → f_X5_minutesOf_4 N n mem (nI S) (nI (mnS mn S i)) (nI i) = some (nI (mnS mn S np), mem) := by
  have h8 := hP.1.1
  have e4 := hP.2.2.1.1
  have hk := hP.2.2.2.1
  intro d
  induction d with
  | zero =>
    intro n i hi hn
    obtain ⟨n, rfl⟩ : ∃ n', n = n' + 1 := ⟨n - 1, by omega⟩
    have : i = np := by omega
    subst this
    rw [f_X5_minutesOf_4.eq_2, show mem 46 (0 : Int32).toNatClampNeg = nI i from e4, if_pos (nI_le (Nat.le_refl _) (by omega))]
  | succ d ih =>
    intro n i hi hn
    obtain ⟨n, rfl⟩ : ∃ n', n = n' + 1 := ⟨n - 1, by omega⟩
    obtain ⟨-, -, -, -, -, -, -, -, q5⟩ := hk i (by omega)
    have hih := ih n (i + 1) (by omega) (by omega)
    rw [f_X5_minutesOf_4.eq_2, show mem 46 (0 : Int32).toNatClampNeg = nI np from e4, if_neg (nI_ge (by omega) (by omega)), bit_e hS (by omega), nI_1]
    rw [mnS_s] at hih
    rcases bit_01 S i with h | h
    · rw [h, if_neg (by decide), Nat.add_zero] at hih
      rw [h, if_neg (show ¬ nI 0 = 1 by decide), show (0 : Int32) = nI 0 from rfl, nI_add, Nat.add_zero]
      exact hih
    · rw [h, if_pos rfl] at hih
      rw [h, if_pos (show nI 1 = 1 from rfl), show (21 : Int32) + nI i = nI (21 + i) from nI_add 21 i, zgd_t (zin_nI (by omega) (by omega)), nI_clamp (by omega), q5, nI_add]
      exact hih
theorem mnS5 (hP : RP mem np ns th bm tw kd wt mn sn) (hN : 300 ≤ N) {S : Nat} (hS : S < 256) : f_X5_minutesOf N mem (nI S) = some (nI (mnS mn S np), mem) :=
  mnS5_loop hP hS np N 0 (by omega) (by have := hP.1.1; omega)
theorem mnS_le (hP : RP mem np ns th bm tw kd wt mn sn) {S : Nat} : ∀ k, k ≤ np → mnS mn S k ≤ 30 * k := by
  intro k
  induction k with
  | zero => intro _; exact Nat.le_refl _
  | succ k ih =>
    intro hk
    have h1 := ih (by omega)
    have h2 := (hP.2.2.2.1 k (by omega)).2.2.1
    unfold mnS
    split <;> omega
/-- level: no farther apart than the beam trembles -/
def hg (bm a b : Nat) : Nat := if a ≤ b + bm ∧ b ≤ a + bm then 1 else 0
theorem hg_01 (bm a b : Nat) : hg bm a b = 0 ∨ hg bm a b = 1 := by
  unfold hg
  split
  · exact Or.inr rfl
  · exact Or.inl rfl
theorem hg4 (hP : RP mem np ns th bm tw kd wt mn sn) {a b : Nat} (ha : a < 2 ^ 20) (hb : b < 2 ^ 20) : f_X4_hangsLevel N mem (nI a) (nI b) = some (nI (hg bm a b), mem) := by
  have e7 := hP.2.1.2.2.2.1
  have hb5 := hP.1.2.2.2.1
  unfold f_X4_hangsLevel hg
  rw [e7]
  by_cases h : b ≤ a
  · rw [pk_sub h, if_pos (show (0 : Int32) ≤ nI (a - b) from nI_pos' (by omega))]
    by_cases h2 : a ≤ b + bm
    · rw [if_neg (nI_nlt (by omega) (by omega)), if_pos ⟨h2, by omega⟩]
      rfl
    · rw [if_pos (nI_lt (by omega) (by omega)), if_neg (fun q => h2 q.1)]
      rfl
  · have h0 : ¬ (0 : Int32) ≤ nI a - nI b := by
      rw [Int32.le_iff_toInt_le, pk_sub_toInt (by omega) (by omega)]
      show ¬ (0 : Int) ≤ _
      omega
    rw [if_neg h0, show 0 - (nI a - nI b) = nI (b - a) by rw [← pk_sub (by omega), Int32.zero_sub, Int32.neg_sub]]
    by_cases h2 : b ≤ a + bm
    · rw [if_neg (nI_nlt (by omega) (by omega)), if_pos ⟨by omega, h2⟩]
      rfl
    · rw [if_pos (nI_lt (by omega) (by omega)), if_neg (fun q => h2 q.2)]
      rfl
theorem hg5 (hP : RP mem np ns th bm tw kd wt mn sn) {a b : Nat} (ha : a < 2 ^ 20) (hb : b < 2 ^ 20) : f_X5_hangs N mem (nI a) (nI b) = some (nI (hg bm a b), mem) := by
  have e7 := hP.2.2.1.2.2.2.1
  have hb5 := hP.1.2.2.2.1
  unfold f_X5_hangs hg
  rw [show mem 46 (3 : Int32).toNatClampNeg = nI bm from e7]
  by_cases h : a ≤ b + bm ∧ b ≤ a + bm
  · rw [zb_of (w5_in ?_), if_pos h]
    · rfl
    · rw [Int32.lt_iff_toInt_lt, Int32.lt_iff_toInt_lt, pk_sub_toInt (by omega) (by omega), sb_negT (by omega), nI_toInt (by omega)]
      omega
  · rw [zb_of (w5_out ?_), if_neg h]
    · rfl
    · rw [Int32.lt_iff_toInt_lt, Int32.lt_iff_toInt_lt, pk_sub_toInt (by omega) (by omega), sb_negT (by omega), nI_toInt (by omega)]
      omega
/-- a week: the class's cells f, g (its sins) against the reference's row h -/
def RW (np ns : Nat) (f g h : Nat → Int32) (pr pa we no : Nat) (sg : Nat → Nat) : Prop :=
  (pr < 2 ^ np ∧ pa ≤ 99 ∧ we ≤ 9 ∧ no ≤ 999) ∧ (f 1 = nI pr ∧ f 2 = nI pa ∧ f 3 = nI we ∧ f 4 = nI no) ∧ (h 7 = nI pr ∧ h 8 = nI pa ∧ h 6 = nI we ∧ h 9 = nI no) ∧ (f 5 = h 10 ∧ f 6 = h 11) ∧ ∀ k, k < ns → sg k ≤ 99 ∧ g k = nI (sg k) ∧ h k = nI (sg k)
def RNow (mem : zMem) (np ns pr pa we no : Nat) (sg : Nat → Nat) : Prop := RW np ns (mem 11) (mem 12) (mem 48) pr pa we no sg
/-- the sins of those who don't confess -/
def slS (sg : Nat → Nat) (C : Nat) : Nat → Nat
  | 0 => 0
  | k + 1 => slS sg C k + (if C / 2 ^ k % 2 = 1 then 0 else sg k)
theorem slS_s (sg : Nat → Nat) (C k : Nat) : slS sg C (k + 1) = slS sg C k + (if C / 2 ^ k % 2 = 1 then 0 else sg k) := rfl
variable {pr pa we no : Nat} {sg : Nat → Nat}
theorem pr_256 (hP : RP mem np ns th bm tw kd wt mn sn) (hpr : pr < 2 ^ np) : pr < 256 := by
  have h8 := hP.1.1
  have : 2 ^ np ≤ 2 ^ 8 := Nat.pow_le_pow_right (by omega) h8
  omega
theorem slS_le (hW : RNow mem np ns pr pa we no sg) {C : Nat} : ∀ k, k ≤ ns → slS sg C k ≤ 99 * k := by
  intro k
  induction k with
  | zero => intro _; exact Nat.le_refl _
  | succ k ih =>
    intro hk
    have h1 := ih (by omega)
    have h2 := (hW.2.2.2.2 k (by omega)).1
    unfold slS
    split <;> omega
theorem lead4_loop (hP : RP mem np ns th bm tw kd wt mn sn) (hW : RNow mem np ns pr pa we no sg) {C : Nat} (hC : C < 256) : ∀ (d n i : Nat), i + d = ns → d < n → f_X4_leadWithout_11 N n mem (nI C) (-nI pa + nI (slS sg C i)) (nI i) = some (nI (slS sg C ns - pa), mem) := by
  have h6 := hP.1.2.1
  have e5 := hP.2.1.2.1
  have hle := slS_le hW (C := C) ns (Nat.le_refl _)
  have hpa := hW.1.2.1
  intro d
  induction d with
  | zero =>
    intro n i hi hn
    obtain ⟨n, rfl⟩ : ∃ n', n = n' + 1 := ⟨n - 1, by omega⟩
    have : i = ns := by omega
    subst this
    have ex : -nI pa + nI (slS sg C i) = nI (slS sg C i) - nI pa := by rw [Int32.add_comm, ← Int32.sub_eq_add_neg]
    rw [f_X4_leadWithout_11.eq_2, e5, if_pos (nI_le (Nat.le_refl _) (by omega)), ex]
    by_cases h : pa ≤ slS sg C i
    · rw [pk_sub h, if_neg (nI_pos (by omega))]
    · rw [if_pos (pk_sneg (by omega) (by omega)), show slS sg C i - pa = 0 by omega]
      rfl
  | succ d ih =>
    intro n i hi hn
    obtain ⟨n, rfl⟩ : ∃ n', n = n' + 1 := ⟨n - 1, by omega⟩
    obtain ⟨-, q1, -⟩ := hW.2.2.2.2 i (by omega)
    have hih := ih n (i + 1) (by omega) (by omega)
    rw [f_X4_leadWithout_11.eq_2, e5, if_neg (nI_ge (by omega) (by omega)), zb_of (isIn_spec hC (by omega)), nI_1]
    rw [slS_s] at hih
    rcases bit_01 C i with h | h
    · rw [h, if_neg (by decide)] at hih
      rw [h, if_pos (show nI 0 = 0 from rfl), zgd_t (zin_nI (by omega) (by omega)), nI_clamp (by omega), q1, Int32.add_assoc, nI_add]
      exact hih
    · rw [h, if_pos rfl, Nat.add_zero] at hih
      rw [h, if_neg (show ¬ nI 1 = 0 by decide)]
      exact hih
theorem lead4 (hP : RP mem np ns th bm tw kd wt mn sn) (hW : RNow mem np ns pr pa we no sg) (hN : 300 ≤ N) {C : Nat} (hC : C < 256) : f_X4_leadWithout N mem (nI C) = some (nI (slS sg C ns - pa), mem) := by
  have h := lead4_loop (N := N) hP hW hC ns N 0 (by omega) (by have := hP.1.2.1; omega)
  unfold f_X4_leadWithout
  rw [hW.2.1.2.1]
  have h2 : -nI pa + nI (slS sg C 0) = -nI pa := by
    show -nI pa + 0 = -nI pa
    rw [Int32.add_zero]
  rw [h2] at h
  exact h
def ldN (sg : Nat → Nat) (ns pa : Nat) : Nat := slS sg 0 ns - pa
theorem leadNow4 (hP : RP mem np ns th bm tw kd wt mn sn) (hW : RNow mem np ns pr pa we no sg) (hN : 300 ≤ N) : f_X4_leadNow N mem = some (nI (ldN sg ns pa), mem) := by
  unfold f_X4_leadNow
  rw [zb_of (show f_X4_leadWithout N mem (0 : Int32) = _ from lead4 hP hW hN (C := 0) (by omega))]
  rfl
theorem slS0 (sg : Nat → Nat) (k : Nat) : slS sg 0 (k + 1) = slS sg 0 k + sg k := by
  show slS sg 0 k + (if 0 / 2 ^ k % 2 = 1 then 0 else sg k) = _
  rw [Nat.zero_div, if_neg (by decide)]
theorem lead5_loop (hP : RP mem np ns th bm tw kd wt mn sn) (hW : RNow mem np ns pr pa we no sg) : ∀ (d n i : Nat), i + d = ns → d < n → f_X5_lead_4 N n mem (nI (slS sg 0 i)) (nI i) = some (nI (ldN sg ns pa), mem) := by
  have h6 := hP.1.2.1
  have e5 := hP.2.2.1.2.1
  have hle := slS_le hW (C := 0) ns (Nat.le_refl _)
  have hpa := hW.1.2.1
  intro d
  induction d with
  | zero =>
    intro n i hi hn
    obtain ⟨n, rfl⟩ : ∃ n', n = n' + 1 := ⟨n - 1, by omega⟩
    have : i = ns := by omega
    subst this
    rw [f_X5_lead_4.eq_2, show mem 46 (1 : Int32).toNatClampNeg = nI i from e5, if_pos (nI_le (Nat.le_refl _) (by omega)), show mem 48 (8 : Int32).toNatClampNeg = nI pa from hW.2.2.1.2.1]
    unfold ldN
    by_cases h : slS sg 0 i ≤ pa
    · rw [if_pos (nI_le h (by omega)), show slS sg 0 i - pa = 0 by omega]
      rfl
    · rw [if_neg (nI_ge (by omega) (by omega)), pk_sub (by omega)]
  | succ d ih =>
    intro n i hi hn
    obtain ⟨n, rfl⟩ : ∃ n', n = n' + 1 := ⟨n - 1, by omega⟩
    obtain ⟨-, -, q1⟩ := hW.2.2.2.2 i (by omega)
    have hih := ih n (i + 1) (by omega) (by omega)
    rw [slS0] at hih
    rw [f_X5_lead_4.eq_2, show mem 46 (1 : Int32).toNatClampNeg = nI ns from e5, if_neg (nI_ge (by omega) (by omega)), zgd_t (zin_nI (by omega) (by omega)), nI_clamp (by omega), q1, nI_1, nI_add]
    exact hih
theorem lead5 (hP : RP mem np ns th bm tw kd wt mn sn) (hW : RNow mem np ns pr pa we no sg) (hN : 300 ≤ N) : f_X5_lead N mem = some (nI (ldN sg ns pa), mem) :=
  lead5_loop hP hW ns N 0 (by omega) (by have := hP.1.2.1; omega)
theorem ldN_le (hP : RP mem np ns th bm tw kd wt mn sn) (hW : RNow mem np ns pr pa we no sg) {C : Nat} : slS sg C ns - pa < 2 ^ 20 := by
  have h6 := hP.1.2.1
  have hle := slS_le hW (C := C) ns (Nat.le_refl _)
  omega
def smN (kd wt : Nat → Nat) (np we th S : Nat) : Nat := ozS kd wt S we np + th
theorem smN_le (hP : RP mem np ns th bm tw kd wt mn sn) {S w : Nat} (hw : w ≤ 9) : smN kd wt np w th S < 2 ^ 20 := by
  have h8 := hP.1.1
  have h9 := hP.1.2.2.1
  have hle := ozS_le hP (S := S) hw np (Nat.le_refl _)
  unfold smN
  omega
theorem sermon4 (hP : RP mem np ns th bm tw kd wt mn sn) (hW : RNow mem np ns pr pa we no sg) (hN : 300 ≤ N) {S : Nat} (hS : S < 256) : f_X4_sermonOf N mem (nI S) = some (nI (smN kd wt np we th S), mem) := by
  unfold f_X4_sermonOf
  rw [hW.2.1.2.2.1, zb_of (ozS4 hP hN hS), hP.2.1.2.2.1, nI_add]
  rfl
theorem sermon5 (hP : RP mem np ns th bm tw kd wt mn sn) (hW : RNow mem np ns pr pa we no sg) (hN : 300 ≤ N) : f_X5_sermon N mem = some (nI (smN kd wt np we th pr), mem) := by
  unfold f_X5_sermon
  rw [show mem 48 (7 : Int32).toNatClampNeg = nI pr from hW.2.2.1.1, show mem 48 (6 : Int32).toNatClampNeg = nI we from hW.2.2.1.2.2.1, zb_of (ozS5 hP hN (pr_256 hP hW.1.1)), show mem 46 (2 : Int32).toNatClampNeg = nI th from hP.2.2.1.2.2.1, nI_add, Nat.add_comm]
  rfl
theorem ldN_lt (hP : RP mem np ns th bm tw kd wt mn sn) (hW : RNow mem np ns pr pa we no sg) : ldN sg ns pa < 2 ^ 20 := ldN_le hP hW (C := 0)
def lvN (kd wt sg : Nat → Nat) (np ns we th bm pr pa : Nat) : Nat := hg bm (smN kd wt np we th pr) (ldN sg ns pa)
theorem level4 (hP : RP mem np ns th bm tw kd wt mn sn) (hW : RNow mem np ns pr pa we no sg) (hN : 300 ≤ N) : f_X4_hangsLevelNow N mem = some (nI (lvN kd wt sg np ns we th bm pr pa), mem) := by
  unfold f_X4_hangsLevelNow
  rw [hW.2.1.1, zb_of (sermon4 hP hW hN (pr_256 hP hW.1.1)), zb_of (leadNow4 hP hW hN), zb_of (hg4 hP (smN_le hP hW.1.2.2.1) (ldN_lt hP hW))]
  unfold lvN
  rcases hg_01 bm (smN kd wt np we th pr) (ldN sg ns pa) with h | h <;> rw [h] <;> rfl
theorem level5 (hP : RP mem np ns th bm tw kd wt mn sn) (hW : RNow mem np ns pr pa we no sg) (hN : 300 ≤ N) : f_X5_isLevel N mem = some (nI (lvN kd wt sg np ns we th bm pr pa), mem) := by
  unfold f_X5_isLevel
  rw [zb_of (sermon5 hP hW hN), zb_of (lead5 hP hW hN), zb_of (hg5 hP (smN_le hP hW.1.2.2.1) (ldN_lt hP hW))]
  unfold lvN
  rcases hg_01 bm (smN kd wt np we th pr) (ldN sg ns pa) with h | h <;> rw [h] <;> rfl
end GA
