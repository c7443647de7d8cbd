/-! Loops that count. -/
def cfI (p : Nat → Bool) : Nat → Nat → Int32 → Int32
  | 0, _, a => a
  | k + 1, i, a => cfI p k (i + 1) (a + bI (p i))
section
variable {S : hs} {m : Nat → Int32}
theorem i40 {i : Nat} (h : i < 40) : ¬ (40 : Int32) ≤ iN i := le_n (b := (i : Int)) (a := 40) rfl (iN_i (by omega)) (by omega)
theorem i40e : (40 : Int32) ≤ iN 40 := by decide
theorem pT_countCourses_l (h : Tc S m) : ∀ (k i n : Nat) (a : Int32), i + k = 40 → k < n → lp_T_countCourses_4 n S a (iN i) = some (cfI (fun u => cIs m u) k i a, S) := by
  intro k
  induction k with
  | zero =>
    intro i n a hi hn
    obtain ⟨n, rfl⟩ : ∃ q, n = q + 1 := ⟨n - 1, by omega⟩
    obtain rfl : i = 40 := by omega
    rw [lp_T_countCourses_4, if_pos i40e]; rfl
  | succ k ih =>
    intro i n a hi hn
    obtain ⟨n, rfl⟩ : ∃ q, n = q + 1 := ⟨n - 1, by omega⟩
    rw [lp_T_countCourses_4, if_neg (i40 (by omega)), pT_hasCourse h, bd_s, if_bI, cIx_n (by omega), iN_1, ih (i + 1) n _ (by omega) (by omega), ih (i + 1) n _ (by omega) (by omega), cfI]
    cases cIs m i <;> rfl
theorem pT_countCourses (h : Tc S m) : f_T_countCourses S = some (cfI (fun u => cIs m u) 40 0 0, S) := pT_countCourses_l h 40 0 1000 0 rfl (by omega)
theorem pM_many_l (h : Tn S m) : ∀ (k i n : Nat) (a : Int32), i + k = 40 → k < n → lp_M_many_64 n S a (iN i) = some (cfI (fun u => cIs m u) k i a, S) := by
  intro k
  induction k with
  | zero =>
    intro i n a hi hn
    obtain ⟨n, rfl⟩ : ∃ q, n = q + 1 := ⟨n - 1, by omega⟩
    obtain rfl : i = 40 := by omega
    rw [lp_M_many_64, if_pos i40e]; rfl
  | succ k ih =>
    intro i n a hi hn
    obtain ⟨n, rfl⟩ : ∃ q, n = q + 1 := ⟨n - 1, by omega⟩
    rw [lp_M_many_64, if_neg (i40 (by omega)), pM_isCourse h, bd_s, if_bI, cIx_n (by omega), iN_1, ih (i + 1) n _ (by omega) (by omega), ih (i + 1) n _ (by omega) (by omega), cfI]
    cases cIs m i <;> rfl
theorem pT_countBeginning_l (h : Tc S m) {c : Nat} (hc : c < 12) : ∀ (k i n : Nat) (a : Int32), i + k = 40 → k < n → lp_T_countBeginning_4 (iN c) n S a (iN i) = some (cfI (fun u => cIs m u && decide (bgn m u = c)) k i a, S) := by
  have hm := h.1.c.2
  intro k
  induction k with
  | zero =>
    intro i n a hi hn
    obtain ⟨n, rfl⟩ : ∃ q, n = q + 1 := ⟨n - 1, by omega⟩
    obtain rfl : i = 40 := by omega
    rw [lp_T_countBeginning_4, if_pos i40e]; rfl
  | succ k ih =>
    intro i n a hi hn
    obtain ⟨n, rfl⟩ : ∃ q, n = q + 1 := ⟨n - 1, by omega⟩
    rw [lp_T_countBeginning_4, if_neg (i40 (by omega)), pT_hasCourse h, bd_s, if_bI, cIx_n (by omega), iN_1, cfI]
    cases hb : cIs m i with
    | false => exact ih (i + 1) n _ (by omega) (by omega)
    | true =>
      rw [bt_t, pT_beginOf h (cIs_lt hb), bd_s]
      have := bgn_lt h.1 (cIs_lt hb)
      by_cases q : bgn m i = c
      · rw [if_pos ((iN_eq (by omega) (by omega)).mpr q), decide_eq_true q]; exact ih (i + 1) n _ (by omega) (by omega)
      · rw [if_neg (fun z => by exact q ((iN_eq (by omega) (by omega)).mp z)), decide_eq_false q]; exact ih (i + 1) n _ (by omega) (by omega)
theorem pT_countEnding_l (h : Tc S m) {c : Nat} (hc : c < 12) : ∀ (k i n : Nat) (a : Int32), i + k = 40 → k < n → lp_T_countEnding_4 (iN c) n S a (iN i) = some (cfI (fun u => cIs m u && decide (enn m u = c)) k i a, S) := by
  have hm := h.1.c.2
  intro k
  induction k with
  | zero =>
    intro i n a hi hn
    obtain ⟨n, rfl⟩ : ∃ q, n = q + 1 := ⟨n - 1, by omega⟩
    obtain rfl : i = 40 := by omega
    rw [lp_T_countEnding_4, if_pos i40e]; rfl
  | succ k ih =>
    intro i n a hi hn
    obtain ⟨n, rfl⟩ : ∃ q, n = q + 1 := ⟨n - 1, by omega⟩
    rw [lp_T_countEnding_4, if_neg (i40 (by omega)), pT_hasCourse h, bd_s, if_bI, cIx_n (by omega), iN_1, cfI]
    cases hb : cIs m i with
    | false => exact ih (i + 1) n _ (by omega) (by omega)
    | true =>
      rw [bt_t, pT_endOf h (cIs_lt hb), bd_s]
      have := enn_lt h.1 (cIs_lt hb)
      by_cases q : enn m i = c
      · rw [if_pos ((iN_eq (by omega) (by omega)).mpr q), decide_eq_true q]; exact ih (i + 1) n _ (by omega) (by omega)
      · rw [if_neg (fun z => by exact q ((iN_eq (by omega) (by omega)).mp z)), decide_eq_false q]; exact ih (i + 1) n _ (by omega) (by omega)
theorem pM_crossingOf_b (h : Tn S m) {c : Nat} (hc : c < 12) {K : hs → Int32 → Int32 → Option (Int32 × hs)} : ∀ (k i n : Nat) (a : Int32), i + k = 40 → k < n → lp_M_crossingOf_25 (iN c) (2 : Int32) K n S a (iN i) = K S (cfI (fun u => cIs m u && decide (bgn m u = c)) k i a) (iN 40) := by
  have hm := h.1.c.2
  intro k
  induction k with
  | zero =>
    intro i n a hi hn
    obtain ⟨n, rfl⟩ : ∃ q, n = q + 1 := ⟨n - 1, by omega⟩
    obtain rfl : i = 40 := by omega
    rw [lp_M_crossingOf_25, if_pos i40e]; rfl
  | succ k ih =>
    intro i n a hi hn
    obtain ⟨n, rfl⟩ : ∃ q, n = q + 1 := ⟨n - 1, by omega⟩
    rw [lp_M_crossingOf_25, if_neg (i40 (by omega)), if_neg (by decide), pM_isCourse h, bd_s, if_bI, cIx_n (by omega), iN_1, cfI]
    cases hb : cIs m i with
    | false => exact ih (i + 1) n _ (by omega) (by omega)
    | true =>
      rw [bt_t, if_pos rfl, pM_beginOf h (cIs_lt hb), bd_s]
      have := bgn_lt h.1 (cIs_lt hb)
      by_cases q : bgn m i = c
      · rw [if_pos ((iN_eq (by omega) (by omega)).mpr q), decide_eq_true q]; exact ih (i + 1) n _ (by omega) (by omega)
      · rw [if_neg (fun z => by exact q ((iN_eq (by omega) (by omega)).mp z)), decide_eq_false q]; exact ih (i + 1) n _ (by omega) (by omega)
theorem pM_crossingOf_e (h : Tn S m) {c : Nat} (hc : c < 12) {K : hs → Int32 → Int32 → Option (Int32 × hs)} : ∀ (k i n : Nat) (a : Int32), i + k = 40 → k < n → lp_M_crossingOf_25 (iN c) (3 : Int32) K n S a (iN i) = K S (cfI (fun u => cIs m u && decide (enn m u = c)) k i a) (iN 40) := by
  have hm := h.1.c.2
  intro k
  induction k with
  | zero =>
    intro i n a hi hn
    obtain ⟨n, rfl⟩ : ∃ q, n = q + 1 := ⟨n - 1, by omega⟩
    obtain rfl : i = 40 := by omega
    rw [lp_M_crossingOf_25, if_pos i40e]; rfl
  | succ k ih =>
    intro i n a hi hn
    obtain ⟨n, rfl⟩ : ∃ q, n = q + 1 := ⟨n - 1, by omega⟩
    rw [lp_M_crossingOf_25, if_neg (i40 (by omega)), if_neg (by decide), pM_isCourse h, bd_s, if_bI, cIx_n (by omega), iN_1, cfI]
    cases hb : cIs m i with
    | false => exact ih (i + 1) n _ (by omega) (by omega)
    | true =>
      rw [bt_t, if_neg (by decide), pM_endOf h (cIs_lt hb), bd_s]
      have := enn_lt h.1 (cIs_lt hb)
      by_cases q : enn m i = c
      · rw [if_pos ((iN_eq (by omega) (by omega)).mpr q), decide_eq_true q]; exact ih (i + 1) n _ (by omega) (by omega)
      · rw [if_neg (fun z => by exact q ((iN_eq (by omega) (by omega)).mp z)), decide_eq_false q]; exact ih (i + 1) n _ (by omega) (by omega)
/-- whether there is one at x, y among the crossings from i on -/
def tkn (m : Nat → Int32) (x y : Int32) : Nat → Nat → Bool
  | 0, _ => false
  | k + 1, i => (decide (m (5 + 2 * i) = x) && decide (m (6 + 2 * i) = y)) || tkn m x y k (i + 1)
theorem pT_isTaken_l (h : Tc S m) {x y : Int32} : ∀ (k i n : Nat), i + k = nCr m → k < n → lp_T_isTaken_2 x y n S (iN i) = some (bI (tkn m x y k i), S) := by
  have hm := h.1.c.2
  intro k
  induction k with
  | zero =>
    intro i n hi hn
    obtain ⟨n, rfl⟩ : ∃ q, n = q + 1 := ⟨n - 1, by omega⟩
    rw [lp_T_isTaken_2, h.c, if_pos ((iN_le (by omega) (by omega)).mpr (by omega))]; rfl
  | succ k ih =>
    intro i n hi hn
    obtain ⟨n, rfl⟩ : ∃ q, n = q + 1 := ⟨n - 1, by omega⟩
    have e := h.x (i := i) (by omega)
    have f := h.1.x (i := i) (by omega)
    rw [lp_T_isTaken_2, h.c, if_neg (fun z => by have := (iN_le (by omega) (by omega)).mp z; omega), if_neg (le_n (a := 12) (b := (i : Int)) rfl (iN_i (by omega)) (by omega)), ck_of (iN_b (by omega) (by decide)), iN_c (by omega), iN_1, ih (i + 1) n (by omega) (by omega), e.1, e.2, ← f.1.1, ← f.2.1, tkn]
    by_cases q1 : m (5 + 2 * i) = x
    · by_cases q2 : m (6 + 2 * i) = y
      · rw [if_pos q1, if_pos q2, decide_eq_true q1, decide_eq_true q2]; rfl
      · rw [if_pos q1, if_neg q2, decide_eq_false q2, Bool.and_false, Bool.false_or]
    · rw [if_neg q1, decide_eq_false q1, Bool.false_and, Bool.false_or]
theorem pM_isThere_t (h : Tn S m) {x y : Int32} : ∀ (k i n : Nat), i + k = nCr m → k < n → lp_M_isThere_5 x y n S (1 : Int32) (iN i) = some (1, S) := by
  have hm := h.1.c.2
  intro k
  induction k with
  | zero =>
    intro i n hi hn
    obtain ⟨n, rfl⟩ : ∃ q, n = q + 1 := ⟨n - 1, by omega⟩
    rw [lp_M_isThere_5, h.c, if_pos ((iN_le (by omega) (by omega)).mpr (by omega))]; rfl
  | succ k ih =>
    intro i n hi hn
    obtain ⟨n, rfl⟩ : ∃ q, n = q + 1 := ⟨n - 1, by omega⟩
    rw [lp_M_isThere_5, h.c, if_neg (fun z => by have := (iN_le (by omega) (by omega)).mp z; omega), if_neg (by decide), iN_1, ih (i + 1) n (by omega) (by omega)]
theorem pM_isThere_l (h : Tn S m) {x y : Int32} : ∀ (k i n : Nat), i + k = nCr m → k < n → lp_M_isThere_5 x y n S (0 : Int32) (iN i) = some (bI (tkn m x y k i), S) := by
  have hm := h.1.c.2
  intro k
  induction k with
  | zero =>
    intro i n hi hn
    obtain ⟨n, rfl⟩ : ∃ q, n = q + 1 := ⟨n - 1, by omega⟩
    rw [lp_M_isThere_5, h.c, if_pos ((iN_le (by omega) (by omega)).mpr (by omega))]; rfl
  | succ k ih =>
    intro i n hi hn
    obtain ⟨n, rfl⟩ : ∃ q, n = q + 1 := ⟨n - 1, by omega⟩
    have hi2 : i < nCr m := by omega
    have f := h.1.x hi2
    rw [lp_M_isThere_5, h.c, if_neg (fun z => by have := (iN_le (by omega) (by omega)).mp z; omega), if_pos rfl, pM_xOf h hi2, bd_s, iN_1, ih (i + 1) n (by omega) (by omega), pM_yOf h hi2, bd_s, pM_isThere_t h k (i + 1) n (by omega) (by omega), ← f.1.1, ← f.2.1, tkn]
    by_cases q1 : m (5 + 2 * i) = x
    · by_cases q2 : m (6 + 2 * i) = y
      · rw [if_pos q1, if_pos q2, decide_eq_true q1, decide_eq_true q2]; rfl
      · rw [if_pos q1, if_neg q2, decide_eq_false q2, Bool.and_false, Bool.false_or]; exact ih (i + 1) n (by omega) (by omega)
    · rw [if_neg q1, decide_eq_false q1, Bool.false_and, Bool.false_or]
theorem tkn_f {x y : Int32} : ∀ (k i : Nat), tkn m x y k i = false → ∀ j, i ≤ j → j < i + k → ¬ (m (5 + 2 * j) = x ∧ m (6 + 2 * j) = y) := by
  intro k
  induction k with
  | zero => intro i _ j h1 h2; omega
  | succ k ih =>
    intro i h j h1 h2 q
    rw [tkn] at h
    simp only [Bool.or_eq_false_iff, Bool.and_eq_false_iff, decide_eq_false_iff_not] at h
    by_cases e : j = i
    · subst e
      rcases h.1 with h | h
      · exact h q.1
      · exact h q.2
    · exact ih (i + 1) h.2 j (by omega) (by omega) q
end
