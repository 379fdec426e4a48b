/-! FORETOLD: stops, soonest, never -/
theorem nI_and (a b : Nat) : nI a &&& nI b = nI (a &&& b) := by
  apply Int32.toBitVec_inj.1
  show BitVec.ofNat 32 a &&& BitVec.ofNat 32 b = BitVec.ofNat 32 (a &&& b)
  apply BitVec.eq_of_getLsbD_eq
  intro i hi
  simp [hi]
theorem nI_or (a b : Nat) : nI a ||| nI b = nI (a ||| b) := by
  apply Int32.toBitVec_inj.1
  show BitVec.ofNat 32 a ||| BitVec.ofNat 32 b = BitVec.ofNat 32 (a ||| b)
  apply BitVec.eq_of_getLsbD_eq
  intro i hi
  simp [hi]
theorem sh_t : ∀ k : Fin 9, ((1 : Int32) <<< (nI k.val &&& 31)) = nI (2 ^ k.val) := by decide +kernel
theorem sh_e {k : Nat} (hk : k ≤ 8) : ((1 : Int32) <<< (nI k &&& 31)) = nI (2 ^ k) := sh_t ⟨k, by omega⟩
theorem pow_256 {k : Nat} (hk : k ≤ 8) : 2 ^ k ≤ 256 := Nat.pow_le_pow_right (n := 2) (by omega) hk
theorem tb (S k : Nat) : (S / 2 ^ k % 2 = 1) = (S.testBit k = true) := by
  rw [Nat.testBit_eq_decide_div_mod_eq, decide_eq_true_eq]
theorem ozS_or {kd wt : Nat → Nat} {A B w : Nat} : ∀ m, (∀ j, j < m → ¬ (A.testBit j = true ∧ B.testBit j = true)) → ozS kd wt (A ||| B) w m = ozS kd wt A w m + ozS kd wt B w m := by
  intro m
  induction m with
  | zero => intro _; rfl
  | succ m ih =>
    intro h
    have h1 := ih (fun j hj => h j (by omega))
    have h2 := h m (by omega)
    unfold ozS
    simp only [tb, Nat.testBit_or, Bool.or_eq_true]
    rw [h1]
    by_cases a : A.testBit m = true
    · by_cases b : B.testBit m = true
      · exact absurd ⟨a, b⟩ h2
      · rw [if_pos (Or.inl a), if_pos a, if_neg b]
        omega
    · by_cases b : B.testBit m = true
      · rw [if_pos (Or.inr b), if_neg a, if_pos b]
        omega
      · rw [if_neg (by intro q; exact q.elim a b), if_neg a, if_neg b]
        omega
theorem ozS_pow {kd wt : Nat → Nat} {k w : Nat} : ∀ m, ozS kd wt (2 ^ k) w m = if k < m then oz (kd k) (wt k) w else 0 := by
  intro m
  induction m with
  | zero => rfl
  | succ m ih =>
    unfold ozS
    simp only [tb, Nat.testBit_two_pow]
    rw [ih]
    by_cases h : k = m
    · subst h
      rw [if_neg (by omega), if_pos (by simp), if_pos (by omega)]
      omega
    · by_cases h2 : k < m
      · rw [if_pos h2, if_neg (by simp [h]), if_pos (by omega)]
        rfl
      · rw [if_neg h2, if_neg (by simp [h]), if_neg (by omega)]
theorem or_256 {A B : Nat} (ha : A < 256) (hb : B < 256) : A ||| B < 256 := Nat.or_lt_two_pow (n := 8) ha hb
section GD
variable {N : Nat} {mem : zMem} {np ns th bm tw : Nat} {kd wt mn sn : Nat → Nat} {pr pa we no : Nat} {sg : Nat → Nat}
/-- whether a set of parts not yet preached would have it hang level -/
def lvS (kd wt : Nat → Nat) (np we th bm pr S ld : Nat) : Nat := if S &&& pr = 0 then hg bm (smN kd wt np we th (pr ||| S)) ld else 0
theorem lvS_01 (S ld : Nat) : lvS kd wt np we th bm pr S ld = 0 ∨ lvS kd wt np we th bm pr S ld = 1 := by
  unfold lvS
  split
  · exact hg_01 _ _ _
  · exact Or.inl rfl
theorem and0 {S : Nat} (hS : S < 256) (hp : pr < 256) : (nI S &&& nI pr = 0) ↔ S &&& pr = 0 := by
  rw [nI_and]
  have h1 : S &&& pr ≤ S := Nat.and_le_left
  exact nI_eq (a := S &&& pr) (b := 0) (by omega) (by omega)
theorem levels4 (hP : RP mem np ns th bm tw kd wt mn sn) (hW : RNow mem np ns pr pa we no sg) (hN : 300 ≤ N) {S ld : Nat} (hS : S < 256) (hld : ld < 2 ^ 20) : f_X4_levels N mem (nI S) (nI ld) = some (nI (lvS kd wt np we th bm pr S ld), mem) := by
  have hp := pr_256 hP hW.1.1
  unfold f_X4_levels lvS
  rw [hW.2.1.1]
  by_cases h : S &&& pr = 0
  · rw [if_pos ((and0 hS hp).mpr h), if_pos h, nI_or, zb_of (sermon4 hP hW hN (or_256 hp hS)), zb_of (hg4 hP (smN_le hP hW.1.2.2.1) hld)]
    rcases hg_01 bm (smN kd wt np we th (pr ||| S)) ld with q | q <;> rw [q] <;> rfl
  · rw [if_neg (fun q => h ((and0 hS hp).mp q)), if_neg h]
    rfl
theorem would5 (hP : RP mem np ns th bm tw kd wt mn sn) (hW : RNow mem np ns pr pa we no sg) (hN : 300 ≤ N) {S ld : Nat} (hS : S < 256) (hld : ld < 2 ^ 20) : f_X5_would N mem (nI S) (nI ld) = some (nI (lvS kd wt np we th bm pr S ld), mem) := by
  have hp := pr_256 hP hW.1.1
  unfold f_X5_would lvS
  rw [show mem 48 (7 : Int32).toNatClampNeg = nI pr from hW.2.2.1.1]
  by_cases h : S &&& pr = 0
  · have e : smN kd wt np we th pr + ozS kd wt S we np = smN kd wt np we th (pr ||| S) := by
      unfold smN
      rw [ozS_or np (fun j _ q => ?_)]
      · omega
      · have h1 : (S &&& pr).testBit j = true := by rw [Nat.testBit_and, q.1, q.2]; rfl
        rw [h, Nat.zero_testBit] at h1
        cases h1
    rw [if_pos ((and0 hS hp).mpr h), if_pos h, zb_of (sermon5 hP hW hN), show mem 48 (6 : Int32).toNatClampNeg = nI we from hW.2.2.1.2.2.1, zb_of (ozS5 hP hN hS), nI_add, e, zb_of (hg5 hP (smN_le hP hW.1.2.2.1) hld)]
    rcases hg_01 bm (smN kd wt np we th (pr ||| S)) ld with q | q <;> rw [q] <;> rfl
  · rw [if_neg (fun q => h ((and0 hS hp).mp q)), if_neg h]
    rfl
/-- never -/
def nvS (kd wt : Nat → Nat) (np we th bm pr ld : Nat) : Nat → Nat → Nat
  | 0, _ => 1
  | d + 1, S => if lvS kd wt np we th bm pr S ld = 0 then nvS kd wt np we th bm pr ld d (S + 1) else 0
theorem never4_loop (hP : RP mem np ns th bm tw kd wt mn sn) (hW : RNow mem np ns pr pa we no sg) (hN : 300 ≤ N) {ld : Nat} (hld : ld < 2 ^ 20) : ∀ (d n S : Nat), S + d = 2 ^ np → d < n → f_X4_never_15 N n mem (nI ld) (nI S) = some (nI (nvS kd wt np we th bm pr ld d S), mem) := by
  have h8 := hP.1.1
  have h256 := pow_256 h8
  intro d
  induction d with
  | zero =>
    intro n S hS hn
    obtain ⟨n, rfl⟩ : ∃ n', n = n' + 1 := ⟨n - 1, by omega⟩
    rw [f_X4_never_15.eq_2, hP.2.1.1, sh_e h8, if_pos (nI_le (by omega) (by omega))]
    rfl
  | succ d ih =>
    intro n S hS hn
    obtain ⟨n, rfl⟩ : ∃ n', n = n' + 1 := ⟨n - 1, by omega⟩
    have hih := ih n (S + 1) (by omega) (by omega)
    rw [f_X4_never_15.eq_2, hP.2.1.1, sh_e h8, if_neg (nI_ge (by omega) (by omega)), zb_of (levels4 hP hW hN (by omega) hld)]
    unfold nvS
    rcases lvS_01 (kd := kd) (wt := wt) (np := np) (we := we) (th := th) (bm := bm) (pr := pr) S ld with q | q
    · rw [q, if_pos (show nI 0 = 0 from rfl), if_pos rfl, nI_1]
      exact hih
    · rw [q, if_neg (show ¬ nI 1 = 0 by decide), if_neg (by decide)]
      rfl
theorem never5_any (hP : RP mem np ns th bm tw kd wt mn sn) {ld : Nat} : ∀ (d n S : Nat), S + d = 2 ^ np → d < n → f_X5_never_17 N n mem (nI ld) 1 (nI S) = some (0, mem) := by
  have h8 := hP.1.1
  have h256 := pow_256 h8
  intro d
  induction d with
  | zero =>
    intro n S hS hn
    obtain ⟨n, rfl⟩ : ∃ n', n = n' + 1 := ⟨n - 1, by omega⟩
    rw [f_X5_never_17.eq_2, show mem 46 (0 : Int32).toNatClampNeg = nI np from hP.2.2.1.1, sh_e h8, if_pos (nI_le (by omega) (by omega)), if_neg (by decide)]
  | succ d ih =>
    intro n S hS hn
    obtain ⟨n, rfl⟩ : ∃ n', n = n' + 1 := ⟨n - 1, by omega⟩
    have hih := ih n (S + 1) (by omega) (by omega)
    rw [f_X5_never_17.eq_2, show mem 46 (0 : Int32).toNatClampNeg = nI np from hP.2.2.1.1, sh_e h8, if_neg (nI_ge (by omega) (by omega)), if_neg (by decide), nI_1]
    exact hih
theorem never5_loop (hP : RP mem np ns th bm tw kd wt mn sn) (hW : RNow mem np ns pr pa we no sg) (hN : 300 ≤ N) {ld : Nat} (hld : ld < 2 ^ 20) : ∀ (d n S : Nat), S + d = 2 ^ np → d < n → f_X5_never_17 N n mem (nI ld) 0 (nI S) = some (nI (nvS kd wt np we th bm pr ld d S), mem) := by
  have h8 := hP.1.1
  have h256 := pow_256 h8
  intro d
  induction d with
  | zero =>
    intro n S hS hn
    obtain ⟨n, rfl⟩ : ∃ n', n = n' + 1 := ⟨n - 1, by omega⟩
    rw [f_X5_never_17.eq_2, show mem 46 (0 : Int32).toNatClampNeg = nI np from hP.2.2.1.1, sh_e h8, if_pos (nI_le (by omega) (by omega)), if_pos rfl]
    rfl
  | succ d ih =>
    intro n S hS hn
    obtain ⟨n, rfl⟩ : ∃ n', n = n' + 1 := ⟨n - 1, by omega⟩
    have hih := ih n (S + 1) (by omega) (by omega)
    rw [f_X5_never_17.eq_2, show mem 46 (0 : Int32).toNatClampNeg = nI np from hP.2.2.1.1, sh_e h8, if_neg (nI_ge (by omega) (by omega)), if_pos rfl, zb_of (would5 hP hW hN (by omega) hld)]
    unfold nvS
    rcases lvS_01 (kd := kd) (wt := wt) (np := np) (we := we) (th := th) (bm := bm) (pr := pr) S ld with q | q
    · rw [q, if_pos (show nI 0 = 0 from rfl), if_pos rfl, nI_1]
      exact hih
    · rw [q, if_neg (show ¬ nI 1 = 0 by decide), if_neg (by decide), nI_1]
      exact never5_any hP d n (S + 1) (by omega) (by omega)
/-- stops -/
def spS (kd wt : Nat → Nat) (we bm pr ld : Nat) : Nat → Nat → Nat → Nat → Int32
  | 0, _, sum, n => if hg bm sum ld = 0 then -1 else nI n
  | d + 1, k, sum, n => if hg bm sum ld = 0 then (if pr / 2 ^ k % 2 = 0 then spS kd wt we bm pr ld d (k + 1) (sum + oz (kd k) (wt k) we) (n + 1) else spS kd wt we bm pr ld d (k + 1) sum n) else nI n
theorem stops5_loop (hP : RP mem np ns th bm tw kd wt mn sn) (hW : RNow mem np ns pr pa we no sg) (hN : 300 ≤ N) : ∀ (d m k sum n : Nat), k + d = np → d < m → sum ≤ 29 * k + 1000 → f_X5_stops_9 N m mem (nI sum) (nI n) (nI k) = some (spS kd wt we bm pr (ldN sg ns pa) d k sum n, mem) := by
  have h8 := hP.1.1
  have hp := pr_256 hP hW.1.1
  intro d
  induction d with
  | zero =>
    intro m k sum n hk hm hs
    obtain ⟨m, rfl⟩ : ∃ n', m = n' + 1 := ⟨m - 1, by omega⟩
    rw [f_X5_stops_9.eq_2, show mem 46 (0 : Int32).toNatClampNeg = nI np from hP.2.2.1.1, if_pos (nI_le (by omega) (by omega)), zb_of (lead5 hP hW hN), zb_of (hg5 hP (by omega) (ldN_lt hP hW))]
    unfold spS
    rcases hg_01 bm sum (ldN sg ns pa) with q | q
    · rw [q, if_pos (show nI 0 = 0 from rfl), if_pos rfl]
    · rw [q, if_neg (show ¬ nI 1 = 0 by decide), if_neg (by decide)]
  | succ d ih =>
    intro m k sum n hk hm hs
    obtain ⟨m, rfl⟩ : ∃ n', m = n' + 1 := ⟨m - 1, by omega⟩
    have hoz := oz_le (kd := kd k) (hP.2.2.2.1 k (by omega)).2.1 hW.1.2.2.1
    rw [f_X5_stops_9.eq_2, show mem 46 (0 : Int32).toNatClampNeg = nI np from hP.2.2.1.1, if_neg (nI_ge (by omega) (by omega)), zb_of (lead5 hP hW hN), zb_of (hg5 hP (by omega) (ldN_lt hP hW))]
    unfold spS
    rcases hg_01 bm sum (ldN sg ns pa) with q | q
    · rw [q, if_pos (show nI 0 = 0 from rfl), if_pos rfl, show mem 48 (7 : Int32).toNatClampNeg = nI pr from hW.2.2.1.1, show mem 48 (6 : Int32).toNatClampNeg = nI we from hW.2.2.1.2.2.1, bit_e hp (by omega)]
      rcases bit_01 pr k with h | h
      · rw [h, if_pos (show nI 0 = 0 from rfl), if_pos rfl, zb_of (ounces5 hP (by omega)), nI_add, nI_1, nI_1]
        exact ih m (k + 1) _ (n + 1) (by omega) (by omega) (by omega)
      · rw [h, if_neg (show ¬ nI 1 = 0 by decide), if_neg (by decide), nI_1]
        exact ih m (k + 1) _ n (by omega) (by omega) (by omega)
    · rw [q, if_neg (show ¬ nI 1 = 0 by decide), if_neg (by decide)]
theorem stops4_loop (hP : RP mem np ns th bm tw kd wt mn sn) (hW : RNow mem np ns pr pa we no sg) (hN : 300 ≤ N) : ∀ (d m k S n : Nat), k + d = np → d < m → S < 256 → (∀ j, k ≤ j → S.testBit j = pr.testBit j) → hg bm (smN kd wt np we th S) (ldN sg ns pa) = 0 → f_X4_stops_33 N m mem (nI (ldN sg ns pa)) (nI S) (nI n) (nI k) = some (spS kd wt we bm pr (ldN sg ns pa) d k (smN kd wt np we th S) n, mem) := by
  have h8 := hP.1.1
  have hp := pr_256 hP hW.1.1
  intro d
  induction d with
  | zero =>
    intro m k S n hk hm hS hj h0
    obtain ⟨m, rfl⟩ : ∃ n', m = n' + 1 := ⟨m - 1, by omega⟩
    rw [f_X4_stops_33.eq_2, hP.2.1.1, if_pos (nI_le (by omega) (by omega))]
    unfold spS
    rw [h0, if_pos rfl]
  | succ d ih =>
    intro m k S n hk hm hS hj h0
    obtain ⟨m, rfl⟩ : ∃ n', m = n' + 1 := ⟨m - 1, by omega⟩
    rw [f_X4_stops_33.eq_2, hP.2.1.1, if_neg (nI_ge (by omega) (by omega)), hW.2.1.1, zb_of (isIn_spec hp (by omega))]
    unfold spS
    rw [h0, if_pos rfl]
    rcases bit_01 pr k with h | h
    · have hpk : 2 ^ k < 256 := Nat.lt_of_lt_of_le (Nat.pow_lt_pow_right (by omega) (show k < 8 by omega)) (by decide)
      have hSk : ¬ S.testBit k = true := by
        rw [hj k (Nat.le_refl k), ← tb]
        omega
      have e : smN kd wt np we th (S ||| 2 ^ k) = smN kd wt np we th S + oz (kd k) (wt k) we := by
        unfold smN
        rw [ozS_or np (fun j _ q => ?_), ozS_pow np, if_pos (by omega)]
        · omega
        · have h2 := q.2
          rw [Nat.testBit_two_pow, decide_eq_true_eq] at h2
          subst h2
          exact hSk q.1
      rw [h, if_pos (show nI 0 = 0 from rfl), if_pos rfl, sh_e (by omega), nI_or, zb_of (sermon4 hP hW hN (or_256 hS hpk)), zb_of (hg4 hP (smN_le hP hW.1.2.2.1) (ldN_lt hP hW)), nI_1, nI_1, ← e]
      rcases hg_01 bm (smN kd wt np we th (S ||| 2 ^ k)) (ldN sg ns pa) with q | q
      · rw [q, if_pos (show nI 0 = 0 from rfl)]
        refine ih m (k + 1) (S ||| 2 ^ k) (n + 1) (by omega) (by omega) (or_256 hS hpk) (fun j hj2 => ?_) q
        rw [Nat.testBit_or, hj j (by omega), Nat.testBit_two_pow, decide_eq_false (by omega), Bool.or_false]
      · rw [q, if_neg (show ¬ nI 1 = 0 by decide)]
        cases d with
        | zero =>
          unfold spS
          rw [q, if_neg (by decide)]
        | succ d =>
          unfold spS
          rw [q, if_neg (by decide)]
    · rw [h, if_neg (show ¬ nI 1 = 0 by decide), if_neg (by decide), nI_1]
      exact ih m (k + 1) S n (by omega) (by omega) hS (fun j hj2 => hj j (by omega)) h0
theorem stops_spec (hP : RP mem np ns th bm tw kd wt mn sn) (hW : RNow mem np ns pr pa we no sg) (hN : 300 ≤ N) : f_X4_stops N mem = some (spS kd wt we bm pr (ldN sg ns pa) np 0 (smN kd wt np we th pr) 0, mem) ∧ f_X5_stops N mem = some (spS kd wt we bm pr (ldN sg ns pa) np 0 (smN kd wt np we th pr) 0, mem) := by
  have h8 := hP.1.1
  have hp := pr_256 hP hW.1.1
  have hsm : smN kd wt np we th pr ≤ 1000 := by
    have h9 := hP.1.2.2.1
    have hle := ozS_le hP (S := pr) hW.1.2.2.1 np (Nat.le_refl _)
    unfold smN
    omega
  refine ⟨?_, ?_⟩
  · unfold f_X4_stops
    rw [zb_of (leadNow4 hP hW hN), hW.2.1.1, zb_of (sermon4 hP hW hN hp), zb_of (hg4 hP (smN_le hP hW.1.2.2.1) (ldN_lt hP hW))]
    rcases hg_01 bm (smN kd wt np we th pr) (ldN sg ns pa) with q | q
    · rw [q, if_pos (show nI 0 = 0 from rfl)]
      exact stops4_loop hP hW hN np N 0 pr 0 (by omega) (by omega) hp (fun _ _ => rfl) q
    · rw [q, if_neg (show ¬ nI 1 = 0 by decide)]
      cases np with
      | zero =>
        unfold spS
        rw [q, if_neg (by decide)]
        rfl
      | succ d =>
        unfold spS
        rw [q, if_neg (by decide)]
        rfl
  · unfold f_X5_stops
    rw [zb_of (sermon5 hP hW hN)]
    exact stops5_loop hP hW hN np N 0 _ 0 (by omega) (by omega) (by omega)
/-- how many parts a set has -/
def pp (S : Nat) : Nat → Nat
  | 0 => 0
  | k + 1 => pp S k + S / 2 ^ k % 2
theorem bc_t : ∀ S : Fin 256, (f_J6_bitCount_0f7a4 0 m00 (nI S.val)).map Prod.fst = some (nI (pp S.val 8)) := by decide +kernel
theorem bc4 {S : Nat} (hS : S < 256) : f_J6_bitCount_0f7a4 N mem (nI S) = some (nI (pp S 8), mem) := by
  have h := bc_t ⟨S, hS⟩
  unfold f_J6_bitCount_0f7a4 at h ⊢
  have h2 := Option.some.inj h
  exact congrArg (fun z => some (z, mem)) h2
theorem ones5_loop {S : Nat} (hS : S < 256) : ∀ (d n i : Nat), i + d = 8 → d < n → f_X5_ones_4 N n mem (nI S) (nI (pp S i)) (nI i) = some (nI (pp S 8), mem) := by
  intro d
  induction d with
  | zero =>
    intro n i hi hn
    obtain ⟨n, rfl⟩ : ∃ n', n = n' + 1 := ⟨n - 1, by omega⟩
    have : i = 8 := by omega
    subst this
    rw [f_X5_ones_4.eq_2, if_pos (show (8 : Int32) ≤ nI 8 from nI_le (a := 8) (b := 8) (by omega) (by omega))]
  | succ d ih =>
    intro n i hi hn
    obtain ⟨n, rfl⟩ : ∃ n', n = n' + 1 := ⟨n - 1, by omega⟩
    have hih := ih n (i + 1) (by omega) (by omega)
    rw [f_X5_ones_4.eq_2, if_neg (show ¬ (8 : Int32) ≤ nI i from nI_ge (a := i) (b := 8) (by omega) (by omega)), bit_e hS (by omega), nI_add, nI_1]
    exact hih
theorem ones5 (hN : 300 ≤ N) {S : Nat} (hS : S < 256) : f_X5_ones N mem (nI S) = some (nI (pp S 8), mem) := ones5_loop hS 8 N 0 (by omega) (by omega)
theorem pp_le (S : Nat) : ∀ k, pp S k ≤ k := by
  intro k
  induction k with
  | zero => exact Nat.le_refl _
  | succ k ih =>
    unfold pp
    omega
/-- whether a set is sooner than another -/
def sooner (mn : Nat → Nat) (np S B : Nat) : Bool := if mnS mn S np = mnS mn B np then decide (pp S 8 < pp B 8) else decide (mnS mn S np < mnS mn B np)
theorem sooner4 (hP : RP mem np ns th bm tw kd wt mn sn) (hN : 300 ≤ N) {S B : Nat} (hS : S < 256) (hB : B < 256) : f_X4_isSooner N mem (nI S) (nI B) = some ((if sooner mn np S B then 1 else 0), mem) := by
  have m1 := mnS_le hP (S := S) np (Nat.le_refl _)
  have m2 := mnS_le hP (S := B) np (Nat.le_refl _)
  have h8 := hP.1.1
  have p1 := pp_le S 8
  have p2 := pp_le B 8
  unfold f_X4_isSooner sooner
  rw [zb_of (mnS4 hP hN hS), zb_of (mnS4 hP hN hB)]
  by_cases h : mnS mn S np = mnS mn B np
  · rw [if_pos ((nI_eq (by omega) (by omega)).mpr h), if_pos h, zb_of (bc4 hS), zb_of (bc4 hB)]
    by_cases h2 : pp S 8 < pp B 8
    · rw [if_neg (nI_ge h2 (by omega)), decide_eq_true h2]
      rfl
    · rw [if_pos (nI_le (by omega) (by omega)), decide_eq_false h2]
      rfl
  · rw [if_neg (fun q => h ((nI_eq (by omega) (by omega)).mp q)), if_neg h]
    by_cases h2 : mnS mn S np < mnS mn B np
    · rw [if_neg (nI_ge h2 (by omega)), decide_eq_true h2]
      rfl
    · rw [if_pos (nI_le (by omega) (by omega)), decide_eq_false h2]
      rfl
def encB (b : Option Nat) : Int32 := match b with
  | none => -1
  | some B => nI B
/-- the best set so far, over the sets to come -/
def bsS (kd wt mn : Nat → Nat) (np we th bm pr ld : Nat) : Nat → Nat → Option Nat → Option Nat
  | 0, _, b => b
  | d + 1, S, b => bsS kd wt mn np we th bm pr ld d (S + 1) (if lvS kd wt np we th bm pr S ld = 0 then b else match b with
    | none => some S
    | some B => if sooner mn np S B then some S else some B)
theorem nI_m1 {B : Nat} (hB : B < 256) : ¬ nI B = (-1 : Int32) := by
  intro h
  have h2 := congrArg Int32.toInt h
  rw [nI_toInt (by omega)] at h2
  have h3 : (-1 : Int32).toInt = -1 := by decide
  rw [h3] at h2
  omega
theorem soonest4_loop (hP : RP mem np ns th bm tw kd wt mn sn) (hW : RNow mem np ns pr pa we no sg) (hN : 300 ≤ N) {ld : Nat} (hld : ld < 2 ^ 20) : ∀ (d n S : Nat) (b : Option Nat), S + d = 2 ^ np → d < n → (∀ B, b = some B → B < 256) → f_X4_soonestSet_9 N n mem (nI ld) (encB b) (nI S) = some (encB (bsS kd wt mn np we th bm pr ld d S b), mem) := by
  have h8 := hP.1.1
  have h256 := pow_256 h8
  intro d
  induction d with
  | zero =>
    intro n S b hS hn hb
    obtain ⟨n, rfl⟩ : ∃ n', n = n' + 1 := ⟨n - 1, by omega⟩
    rw [f_X4_soonestSet_9.eq_2, hP.2.1.1, sh_e h8, if_pos (nI_le (by omega) (by omega))]
    rfl
  | succ d ih =>
    intro n S b hS hn hb
    obtain ⟨n, rfl⟩ : ∃ n', n = n' + 1 := ⟨n - 1, by omega⟩
    rw [f_X4_soonestSet_9.eq_2, hP.2.1.1, sh_e h8, if_neg (nI_ge (by omega) (by omega)), zb_of (levels4 hP hW hN (by omega) hld), nI_1]
    unfold bsS
    rcases lvS_01 (kd := kd) (wt := wt) (np := np) (we := we) (th := th) (bm := bm) (pr := pr) S ld with q | q
    · rw [q, if_pos (show nI 0 = 0 from rfl), if_pos rfl]
      exact ih n (S + 1) b (by omega) (by omega) hb
    · rw [q, if_neg (show ¬ nI 1 = 0 by decide), if_neg (show ¬ (1 : Nat) = 0 by decide)]
      cases b with
      | none =>
        rw [if_pos (show encB none = (-1 : Int32) from rfl)]
        exact ih n (S + 1) (some S) (by omega) (by omega) (fun B h => by cases h; omega)
      | some B =>
        have hB := hb B rfl
        rw [if_neg (show ¬ encB (some B) = (-1 : Int32) from nI_m1 hB)]
        show zb (f_X4_isSooner N mem (nI S) (nI B)) _ = _
        rw [zb_of (sooner4 hP hN (by omega) hB)]
        by_cases h : sooner mn np S B = true
        · rw [if_pos h, if_neg (show ¬ (1 : Int32) = 0 by decide)]
          show _ = some (encB (bsS kd wt mn np we th bm pr ld d (S + 1) (if sooner mn np S B = true then some S else some B)), mem)
          rw [if_pos h]
          exact ih n (S + 1) (some S) (by omega) (by omega) (fun B h => by cases h; omega)
        · rw [if_neg h, if_pos rfl]
          show _ = some (encB (bsS kd wt mn np we th bm pr ld d (S + 1) (if sooner mn np S B = true then some S else some B)), mem)
          rw [if_neg h]
          exact ih n (S + 1) (some B) (by omega) (by omega) (fun B h => by cases h; omega)
/-- what the reference makes of the best set -/
def fin5 (mn : Nat → Nat) (np : Nat) (what : Int32) (b : Option Nat) : Int32 := if what = 0 then encB b else match b with
  | none => -1
  | some B => nI (mnS mn B np)
theorem soonest5_loop (hP : RP mem np ns th bm tw kd wt mn sn) (hW : RNow mem np ns pr pa we no sg) (hN : 300 ≤ N) {ld : Nat} (hld : ld < 2 ^ 20) (what : Int32) : ∀ (d n S : Nat) (b : Option Nat), S + d = 2 ^ np → d < n → (∀ B, b = some B → B < 256) → f_X5_soonest_22 N n mem what (encB b) (nI ld) (nI S) = some (fin5 mn np what (bsS kd wt mn np we th bm pr ld d S b), mem) := by
  have h8 := hP.1.1
  have h256 := pow_256 h8
  intro d
  induction d with
  | zero =>
    intro n S b hS hn hb
    obtain ⟨n, rfl⟩ : ∃ n', n = n' + 1 := ⟨n - 1, by omega⟩
    rw [f_X5_soonest_22.eq_2, show mem 46 (0 : Int32).toNatClampNeg = nI np from hP.2.2.1.1, sh_e h8, if_pos (nI_le (by omega) (by omega))]
    unfold bsS fin5
    by_cases hw : what = 0
    · rw [if_pos hw, if_pos hw]
    · rw [if_neg hw, if_neg hw]
      cases b with
      | none => rfl
      | some B =>
        have hB := hb B rfl
        rw [if_neg (show ¬ encB (some B) = (-1 : Int32) from nI_m1 hB)]
        show zb (f_X5_minutesOf N mem (nI B)) _ = _
        rw [zb_of (mnS5 hP hN hB)]
  | succ d ih =>
    intro n S b hS hn hb
    obtain ⟨n, rfl⟩ : ∃ n', n = n' + 1 := ⟨n - 1, by omega⟩
    rw [f_X5_soonest_22.eq_2, show mem 46 (0 : Int32).toNatClampNeg = nI np from hP.2.2.1.1, sh_e h8, if_neg (nI_ge (by omega) (by omega)), zb_of (would5 hP hW hN (by omega) hld), nI_1]
    unfold bsS
    rcases lvS_01 (kd := kd) (wt := wt) (np := np) (we := we) (th := th) (bm := bm) (pr := pr) S ld with q | q
    · rw [q, if_pos (show nI 0 = 0 from rfl), if_pos rfl]
      exact ih n (S + 1) b (by omega) (by omega) hb
    · rw [q, if_neg (show ¬ nI 1 = 0 by decide), if_neg (show ¬ (1 : Nat) = 0 by decide)]
      cases b with
      | none =>
        rw [if_pos (show encB none = (-1 : Int32) from rfl), if_pos (by decide)]
        exact ih n (S + 1) (some S) (by omega) (by omega) (fun B h => by cases h; omega)
      | some B =>
        have hB := hb B rfl
        have m1 := mnS_le hP (S := S) np (Nat.le_refl _)
        have m2 := mnS_le hP (S := B) np (Nat.le_refl _)
        have p1 := pp_le S 8
        have p2 := pp_le B 8
        rw [if_neg (show ¬ encB (some B) = (-1 : Int32) from nI_m1 hB)]
        show zb (f_X5_minutesOf N mem (nI S)) _ = some (fin5 mn np what (bsS kd wt mn np we th bm pr ld d (S + 1) (if sooner mn np S B = true then some S else some B)), mem)
        rw [zb_of (mnS5 hP hN (by omega)), show encB (some B) = nI B from rfl, zb_of (mnS5 hP hN hB)]
        have go1 : sooner mn np S B = true → f_X5_soonest_22 N n mem what (nI S) (nI ld) (nI (S + 1)) = some (fin5 mn np what (bsS kd wt mn np we th bm pr ld d (S + 1) (if sooner mn np S B = true then some S else some B)), mem) := fun h => by
          rw [if_pos h]
          exact ih n (S + 1) (some S) (by omega) (by omega) (fun B h => by cases h; omega)
        have go0 : ¬ sooner mn np S B = true → f_X5_soonest_22 N n mem what (nI B) (nI ld) (nI (S + 1)) = some (fin5 mn np what (bsS kd wt mn np we th bm pr ld d (S + 1) (if sooner mn np S B = true then some S else some B)), mem) := fun h => by
          rw [if_neg h]
          exact ih n (S + 1) (some B) (by omega) (by omega) (fun B h => by cases h; omega)
        by_cases h : mnS mn S np < mnS mn B np
        · rw [if_pos (pk_sneg (by omega) h)]
          refine go1 ?_
          unfold sooner
          rw [if_neg (by omega), decide_eq_true h]
        · rw [pk_sub (by omega), if_neg (nI_pos (by omega))]
          by_cases h2 : mnS mn S np = mnS mn B np
          · rw [if_pos (show nI (mnS mn S np - mnS mn B np) = 0 by rw [show mnS mn S np - mnS mn B np = 0 by omega]; rfl), zb_of (ones5 hN (by omega)), zb_of (ones5 hN hB)]
            by_cases h3 : pp S 8 < pp B 8
            · rw [if_neg (nI_ge h3 (by omega))]
              refine go1 ?_
              unfold sooner
              rw [if_pos h2, decide_eq_true h3]
            · rw [if_pos (nI_le (by omega) (by omega))]
              refine go0 ?_
              unfold sooner
              rw [if_pos h2, decide_eq_false h3]
              exact Bool.false_ne_true
          · rw [if_neg (nI_ne0 (by omega) (by omega))]
            refine go0 ?_
            unfold sooner
            rw [if_neg h2, decide_eq_false h]
            exact Bool.false_ne_true
theorem bsS_lt {ld : Nat} : ∀ (d S : Nat) (b : Option Nat), S + d ≤ 256 → (∀ B, b = some B → B < 256) → ∀ B, bsS kd wt mn np we th bm pr ld d S b = some B → B < 256 := by
  intro d
  induction d with
  | zero => intro S b _ hb; exact hb
  | succ d ih =>
    intro S b hS hb
    unfold bsS
    refine ih (S + 1) _ (by omega) (fun B h => ?_)
    split at h
    · exact hb B h
    · cases b with
      | none => cases h; omega
      | some C =>
        have hC := hb C rfl
        dsimp only at h
        split at h <;> cases h <;> omega
end GD
