/-! The town, as the model's row m tells it; what both sides' questions of it answer. -/
def nCr (m : Nat → Int32) : Nat := (m 1).toNatClampNeg
def nSt (m : Nat → Int32) : Nat := (m 2).toNatClampNeg
def nWk (m : Nat → Int32) : Nat := (m 3).toNatClampNeg
def nDy (m : Nat → Int32) : Nat := (m 0).toNatClampNeg
def qX (m : Nat → Int32) (i : Nat) : Nat := (m (5 + 2 * i)).toNatClampNeg
def qY (m : Nat → Int32) (i : Nat) : Nat := (m (6 + 2 * i)).toNatClampNeg
def qA (m : Nat → Int32) (j : Nat) : Nat := (m (29 + 5 * j)).toNatClampNeg
def qB (m : Nat → Int32) (j : Nat) : Nat := (m (30 + 5 * j)).toNatClampNeg
def qW (m : Nat → Int32) (j : Nat) : Nat := (m (31 + 5 * j)).toNatClampNeg
def qO (m : Nat → Int32) (j : Nat) : Nat := (m (32 + 5 * j)).toNatClampNeg
def qH (m : Nat → Int32) (j : Nat) : Nat := (m (33 + 5 * j)).toNatClampNeg
def qC (m : Nat → Int32) (i : Nat) : Nat := (m (129 + 3 * i)).toNatClampNeg
def qD (m : Nat → Int32) (i : Nat) : Nat := (m (130 + 3 * i)).toNatClampNeg
def dst (a b : Nat) : Nat := (a - b) + (b - a)
def qL (m : Nat → Int32) (j : Nat) : Nat := dst (qX m (qA m j)) (qX m (qB m j)) + dst (qY m (qA m j)) (qY m (qB m j))
def VM (m : Nat → Int32) : Prop :=
  (m 1 = iN (nCr m) ∧ nCr m ≤ 12) ∧ (m 2 = iN (nSt m) ∧ nSt m ≤ 20) ∧ (m 3 = iN (nWk m) ∧ nWk m ≤ 4) ∧ (m 0 = iN (nDy m) ∧ nDy m ≤ 6) ∧
  (∀ i, i < nCr m → (m (5 + 2 * i) = iN (qX m i) ∧ qX m i ≤ 9) ∧ (m (6 + 2 * i) = iN (qY m i) ∧ qY m i ≤ 9)) ∧
  (∀ i j, i < nCr m → j < nCr m → qX m i = qX m j → qY m i = qY m j → i = j) ∧
  (∀ j, j < nSt m → (m (29 + 5 * j) = iN (qA m j) ∧ qA m j < nCr m) ∧ (m (30 + 5 * j) = iN (qB m j) ∧ qB m j < nCr m) ∧ qA m j ≠ qB m j ∧ (m (31 + 5 * j) = iN (qW m j) ∧ 1 ≤ qW m j ∧ qW m j ≤ 9) ∧ (m (32 + 5 * j) = iN (qO m j) ∧ qO m j ≤ 1) ∧ (m (33 + 5 * j) = iN (qH m j) ∧ qH m j ≤ 1)) ∧
  (∀ i, i < nWk m → (m (129 + 3 * i) = iN (qC m i) ∧ qC m i < 2 * nSt m) ∧ (m (130 + 3 * i) = iN (qD m i) ∧ qD m i ≤ 9))
/-- what the class's town has, g: its cells -/
def TB (g : Nat → Nat → Int32) (m : Nat → Int32) : Prop :=
  g 34 5 = m 1 ∧ g 34 6 = m 2 ∧ g 34 7 = m 3 ∧ g 34 8 = m 0 ∧
  (∀ i, i < nCr m → g (36 + i) 0 = m (5 + 2 * i) ∧ g (36 + i) 1 = m (6 + 2 * i)) ∧
  (∀ j, j < nSt m → (g (49 + j) 0 = m (29 + 5 * j) ∧ g (49 + j) 1 = m (30 + 5 * j) ∧ g (49 + j) 2 = m (31 + 5 * j) ∧ g (49 + j) 3 = m (32 + 5 * j) ∧ g (49 + j) 5 = m (33 + 5 * j)) ∧ g (49 + j) 4 = iN (qL m j) ∧ g (49 + j) 6 = m (5 + 2 * qB m j) - m (5 + 2 * qA m j) ∧ g (49 + j) 7 = m (6 + 2 * qB m j) - m (6 + 2 * qA m j)) ∧
  (∀ i, i < nWk m → g (70 + i) 0 = m (129 + 3 * i) ∧ g (70 + i) 1 = m (130 + 3 * i) ∧ g (70 + i) 2 = m (131 + 3 * i))
def Tn (S : hs) (m : Nat → Int32) : Prop := VM m ∧ ∀ i, i < 358 → gI S 192 i = m i
def Tc (S : hs) (m : Nat → Int32) : Prop := VM m ∧ TB (fun a i => gI S a i) m
theorem VM.c {m : Nat → Int32} (h : VM m) : m 1 = iN (nCr m) ∧ nCr m ≤ 12 := h.1
theorem VM.s {m : Nat → Int32} (h : VM m) : m 2 = iN (nSt m) ∧ nSt m ≤ 20 := h.2.1
theorem VM.w {m : Nat → Int32} (h : VM m) : m 3 = iN (nWk m) ∧ nWk m ≤ 4 := h.2.2.1
theorem VM.d {m : Nat → Int32} (h : VM m) : m 0 = iN (nDy m) ∧ nDy m ≤ 6 := h.2.2.2.1
theorem VM.x {m : Nat → Int32} (h : VM m) {i : Nat} (hi : i < nCr m) : (m (5 + 2 * i) = iN (qX m i) ∧ qX m i ≤ 9) ∧ (m (6 + 2 * i) = iN (qY m i) ∧ qY m i ≤ 9) := h.2.2.2.2.1 i hi
theorem VM.u {m : Nat → Int32} (h : VM m) {i j : Nat} (hi : i < nCr m) (hj : j < nCr m) (q1 : qX m i = qX m j) (q2 : qY m i = qY m j) : i = j := h.2.2.2.2.2.1 i j hi hj q1 q2
theorem VM.e {m : Nat → Int32} (h : VM m) {j : Nat} (hj : j < nSt m) : (m (29 + 5 * j) = iN (qA m j) ∧ qA m j < nCr m) ∧ (m (30 + 5 * j) = iN (qB m j) ∧ qB m j < nCr m) ∧ qA m j ≠ qB m j ∧ (m (31 + 5 * j) = iN (qW m j) ∧ 1 ≤ qW m j ∧ qW m j ≤ 9) ∧ (m (32 + 5 * j) = iN (qO m j) ∧ qO m j ≤ 1) ∧ (m (33 + 5 * j) = iN (qH m j) ∧ qH m j ≤ 1) := h.2.2.2.2.2.2.1 j hj
theorem VM.k {m : Nat → Int32} (h : VM m) {i : Nat} (hi : i < nWk m) : (m (129 + 3 * i) = iN (qC m i) ∧ qC m i < 2 * nSt m) ∧ (m (130 + 3 * i) = iN (qD m i) ∧ qD m i ≤ 9) := h.2.2.2.2.2.2.2 i hi
/-- courses by number -/
def wIs (m : Nat → Int32) (u : Nat) : Bool := decide (u / 2 < nSt m) && (decide (u % 2 = 0) || decide (qO m (u / 2) = 0))
def cIs (m : Nat → Int32) (u : Nat) : Bool := wIs m u && decide (qH m (u / 2) = 0)
def bgn (m : Nat → Int32) (u : Nat) : Nat := if u % 2 = 0 then qA m (u / 2) else qB m (u / 2)
def enn (m : Nat → Int32) (u : Nat) : Nat := if u % 2 = 0 then qB m (u / 2) else qA m (u / 2)
def wIx (m : Nat → Int32) (x : Int32) : Bool := decide (0 ≤ x.toInt) && wIs m x.toNatClampNeg
def cIx (m : Nat → Int32) (x : Int32) : Bool := decide (0 ≤ x.toInt) && cIs m x.toNatClampNeg
theorem wIs_lt {m : Nat → Int32} {u : Nat} (h : wIs m u = true) : u < 2 * nSt m := by
  unfold wIs at h
  simp only [Bool.and_eq_true, decide_eq_true_eq] at h
  omega
theorem cIs_w {m : Nat → Int32} {u : Nat} (h : cIs m u = true) : wIs m u = true := by
  unfold cIs at h
  simp only [Bool.and_eq_true] at h
  exact h.1
theorem cIs_lt {m : Nat → Int32} {u : Nat} (h : cIs m u = true) : u < 2 * nSt m := wIs_lt (cIs_w h)
theorem wIx_n {m : Nat → Int32} {u : Nat} (h : u < 2147483648) : wIx m (iN u) = wIs m u := by
  unfold wIx; rw [iN_c h, iN_i h]; simp
theorem cIx_n {m : Nat → Int32} {u : Nat} (h : u < 2147483648) : cIx m (iN u) = cIs m u := by
  unfold cIx; rw [iN_c h, iN_i h]; simp
theorem cIx_e {m : Nat → Int32} {x : Int32} (v : VM m) (h : cIx m x = true) : ∃ u : Nat, x = iN u ∧ cIs m u = true ∧ u < 2 * nSt m ∧ u < 40 := by
  unfold cIx at h
  simp only [Bool.and_eq_true, decide_eq_true_eq] at h
  obtain ⟨n, rfl, hn, -⟩ := iN_of h.1
  rw [iN_c hn] at h
  have := cIs_lt h.2
  have := v.s.2
  exact ⟨n, rfl, h.2, by omega, by omega⟩
theorem half_lt {m : Nat → Int32} {u : Nat} (h : u < 2 * nSt m) : u / 2 < nSt m := by omega
section
variable {S : hs} {m : Nat → Int32}
theorem Tc.c (h : Tc S m) : gI S 34 5 = iN (nCr m) := h.2.1.trans h.1.c.1
theorem Tc.s (h : Tc S m) : gI S 34 6 = iN (nSt m) := h.2.2.1.trans h.1.s.1
theorem Tc.w (h : Tc S m) : gI S 34 7 = iN (nWk m) := h.2.2.2.1.trans h.1.w.1
theorem Tc.d (h : Tc S m) : gI S 34 8 = iN (nDy m) := h.2.2.2.2.1.trans h.1.d.1
theorem Tc.x (h : Tc S m) {i : Nat} (hi : i < nCr m) : gI S (36 + i) 0 = iN (qX m i) ∧ gI S (36 + i) 1 = iN (qY m i) :=
  ⟨(h.2.2.2.2.2.1 i hi).1.trans (h.1.x hi).1.1, (h.2.2.2.2.2.1 i hi).2.trans (h.1.x hi).2.1⟩
theorem Tc.e (h : Tc S m) {j : Nat} (hj : j < nSt m) : gI S (49 + j) 0 = iN (qA m j) ∧ gI S (49 + j) 1 = iN (qB m j) ∧ gI S (49 + j) 2 = iN (qW m j) ∧ gI S (49 + j) 3 = iN (qO m j) ∧ gI S (49 + j) 5 = iN (qH m j) ∧ gI S (49 + j) 4 = iN (qL m j) ∧ gI S (49 + j) 6 = iN (qX m (qB m j)) - iN (qX m (qA m j)) ∧ gI S (49 + j) 7 = iN (qY m (qB m j)) - iN (qY m (qA m j)) := by
  obtain ⟨⟨h1, h2, h3, h4, h5⟩, h6, h7, h8⟩ := h.2.2.2.2.2.2.1 j hj
  obtain ⟨⟨e1, a⟩, ⟨e2, b⟩, -, e3, e4, e5⟩ := h.1.e hj
  refine ⟨h1.trans e1, h2.trans e2, h3.trans e3.1, h4.trans e4.1, h5.trans e5.1, h6, ?_, ?_⟩
  · rw [← (h.1.x a).1.1, ← (h.1.x b).1.1]; exact h7
  · rw [← (h.1.x a).2.1, ← (h.1.x b).2.1]; exact h8
theorem Tc.k (h : Tc S m) {i : Nat} (hi : i < nWk m) : gI S (70 + i) 0 = iN (qC m i) ∧ gI S (70 + i) 1 = iN (qD m i) ∧ gI S (70 + i) 2 = m (131 + 3 * i) :=
  ⟨(h.2.2.2.2.2.2.2 i hi).1.trans (h.1.k hi).1.1, (h.2.2.2.2.2.2.2 i hi).2.1.trans (h.1.k hi).2.1, (h.2.2.2.2.2.2.2 i hi).2.2⟩
theorem Tn.at (h : Tn S m) {i : Nat} (hi : i < 358) : gI S 192 i = m i := h.2 i hi
theorem Tn.c (h : Tn S m) : gI S 192 1 = iN (nCr m) := (h.at (by omega)).trans h.1.c.1
theorem Tn.s (h : Tn S m) : gI S 192 2 = iN (nSt m) := (h.at (by omega)).trans h.1.s.1
theorem Tn.w (h : Tn S m) : gI S 192 3 = iN (nWk m) := (h.at (by omega)).trans h.1.w.1
/-- a test of a number against 0 and a bound -/
theorem rng_f {x : Int32} {n k : Nat} (hn : n ≤ k) (hk : k < 2147483648) : (if x < 0 then some ((0 : Int32), S) else (if iN n ≤ x then some ((0 : Int32), S) else (if iN k ≤ x then some ((0 : Int32), S) else some ((1 : Int32), S)))) = some (bI (decide (0 ≤ x.toInt ∧ x.toInt < (n : Int))), S) := by
  have z0 : (0 : Int32).toInt = 0 := rfl
  by_cases h1 : x.toInt < 0
  · rw [if_pos (lt_y rfl z0 h1), decide_eq_false (fun q => by omega)]; rfl
  · rw [if_neg (lt_n rfl z0 (by omega))]
    by_cases h2 : x.toInt < n
    · rw [if_neg (le_n (iN_i (by omega)) rfl h2), if_neg (le_n (iN_i hk) rfl (by omega)), decide_eq_true ⟨by omega, h2⟩]; rfl
    · rw [if_pos (le_y (iN_i (by omega)) rfl (by omega)), decide_eq_false (fun q => by omega)]; rfl
theorem pT_hasCrossing (h : Tc S m) (x : Int32) : f_T_hasCrossing S x = some (bI (decide (0 ≤ x.toInt ∧ x.toInt < (nCr m : Int))), S) := by
  unfold f_T_hasCrossing; rw [h.c]; exact rng_f (k := 12) h.1.c.2 (by decide)
theorem pT_hasStreet (h : Tc S m) (x : Int32) : f_T_hasStreet S x = some (bI (decide (0 ≤ x.toInt ∧ x.toInt < (nSt m : Int))), S) := by
  unfold f_T_hasStreet; rw [h.s]; exact rng_f (k := 20) h.1.s.2 (by decide)
theorem pT_hasWalker (h : Tc S m) (x : Int32) : f_T_hasWalker S x = some (bI (decide (0 ≤ x.toInt ∧ x.toInt < (nWk m : Int))), S) := by
  unfold f_T_hasWalker; rw [h.w]; exact rng_f (k := 4) h.1.w.2 (by decide)
theorem pM_in (x a b : Int32) : f_M_in S x a b = some (bI (decide (a.toInt ≤ x.toInt ∧ x.toInt ≤ b.toInt)), S) := by
  unfold f_M_in
  by_cases h1 : x.toInt < a.toInt
  · rw [if_pos (lt_y rfl rfl h1), decide_eq_false (fun q => by omega)]; rfl
  · rw [if_neg (lt_n rfl rfl (by omega))]
    by_cases h2 : b.toInt < x.toInt
    · rw [if_pos (lt_y rfl rfl h2), decide_eq_false (fun q => by omega)]; rfl
    · rw [if_neg (lt_n rfl rfl (by omega)), decide_eq_true ⟨by omega, by omega⟩]; rfl
theorem pM_is {k n : Nat} (hk : k < 358) (hn : n < 2147483648) (h : gI S 192 k = iN n) (x : Int32) : f_M_is S x (iN k) = some (bI (decide (0 ≤ x.toInt ∧ x.toInt < (n : Int))), S) := by
  unfold f_M_is
  rw [ck_of (iN_b hk (by decide)), iN_c (by omega), h, pM_in, bd_s, ck_of (bI_B _)]
  have e : (iN n - (1 : Int32)).toInt = (n : Int) - 1 := by
    rw [i32sub] <;> rw [iN_i hn] <;> show _ <;> first | rfl | (show _ ≤ (n : Int) - 1; omega) | (show (n : Int) - 1 < _; omega)
  rw [e]
  have z0 : (0 : Int32).toInt = 0 := rfl
  rw [z0]
  congr 3
  exact decide_eq_decide.mpr ⟨fun q => ⟨q.1, by omega⟩, fun q => ⟨q.1, by omega⟩⟩
theorem nt0 {n : Nat} (h : n ≤ 1) : (iN n = 0) = (n = 0) := by
  have : n = 0 ∨ n = 1 := by omega
  rcases this with rfl | rfl <;> decide
theorem pT_hasWay (h : Tc S m) (x : Int32) : f_T_hasWay S x = some (bI (wIx m x), S) := by
  unfold f_T_hasWay
  rw [pT_hasStreet h, bd_s, if_bI, sh1_i]
  have hs := h.1.s.2
  by_cases h0 : 0 ≤ x.toInt
  · obtain ⟨u, rfl, hu, e⟩ := iN_of h0
    rw [iN_i hu, wIx_n hu, iN_sh hu]
    by_cases h1 : u / 2 < nSt m
    · have e1 : decide (0 ≤ ((u : Int) / 2) ∧ ((u : Int) / 2) < (nSt m : Int)) = true := decide_eq_true ⟨by omega, by omega⟩
      rw [e1, bt_t, iN_an (by omega)]
      unfold wIs
      rw [decide_eq_true h1, Bool.true_and]
      by_cases h2 : u % 2 = 0
      · rw [h2, if_pos (by decide)]; rfl
      · rw [show u % 2 = 1 by omega, if_neg (by decide), ck_of (iN_b (by omega) (by decide)), iN_c (by omega), (h.e h1).2.2.2.1, if_z (by have := (h.1.e h1).2.2.2.2.1.2; omega)]
        by_cases h3 : qO m (u / 2) = 0
        · rw [if_pos h3, decide_eq_true h3]; rfl
        · rw [if_neg h3, decide_eq_false h3]; rfl
    · have e1 : decide (0 ≤ ((u : Int) / 2) ∧ ((u : Int) / 2) < (nSt m : Int)) = false := decide_eq_false (fun q => by omega)
      rw [e1, bt_f]
      unfold wIs
      rw [decide_eq_false h1]; rfl
  · have e1 : decide (0 ≤ (x.toInt / 2) ∧ (x.toInt / 2) < (nSt m : Int)) = false := decide_eq_false (fun q => by omega)
    rw [e1, bt_f]
    unfold wIx
    rw [decide_eq_false h0]; rfl
theorem pT_hasCourse (h : Tc S m) (x : Int32) : f_T_hasCourse S x = some (bI (cIx m x), S) := by
  unfold f_T_hasCourse
  rw [pT_hasWay h, bd_s, if_bI]
  have hs := h.1.s.2
  cases hw : wIx m x with
  | false =>
    rw [bt_f]
    unfold cIx cIs; unfold wIx at hw
    rw [← Bool.and_assoc, hw]; rfl
  | true =>
    rw [bt_t]
    unfold wIx at hw
    simp only [Bool.and_eq_true, decide_eq_true_eq] at hw
    obtain ⟨u, rfl, hu, e⟩ := iN_of hw.1
    rw [iN_c hu] at hw
    have hl := wIs_lt hw.2
    rw [iN_sh hu, ck_of (iN_b (by omega) (by decide)), iN_c (by omega), (h.e (half_lt hl)).2.2.2.2.1, if_z (by have := (h.1.e (half_lt hl)).2.2.2.2.2.2; omega), cIx_n hu]
    unfold cIs
    rw [hw.2, Bool.true_and]
    by_cases h3 : qH m (u / 2) = 0
    · rw [if_pos h3, decide_eq_true h3]; rfl
    · rw [if_neg h3, decide_eq_false h3]; rfl
theorem st_tr {u : Nat} (h : u / 2 < nSt m) : bI (decide (0 ≤ ((u / 2 : Nat) : Int) ∧ ((u / 2 : Nat) : Int) < (nSt m : Int))) = 1 := by
  rw [decide_eq_true ⟨by omega, by omega⟩]; rfl
theorem hs_at (h : Tc S m) {j : Nat} (hj : j < nSt m) : f_T_hasStreet S (iN j) = some (1, S) := by
  have hs := h.1.s.2
  rw [pT_hasStreet h, iN_i (by omega), decide_eq_true ⟨by omega, by omega⟩]; rfl
theorem pT_beginOf (h : Tc S m) {u : Nat} (hu : u < 2 * nSt m) : f_T_beginOf S (iN u) = some (iN (bgn m u), S) := by
  have hs := h.1.s.2
  unfold f_T_beginOf bgn
  rw [iN_sh (by omega), hs_at h (half_lt hu), bd_s, if_neg (by decide), ck_of (iN_b (by omega) (by decide)), iN_c (by omega), iN_an (by omega), (h.e (half_lt hu)).1, (h.e (half_lt hu)).2.1]
  by_cases h2 : u % 2 = 0
  · rw [h2, if_pos (by decide), if_pos rfl]
  · rw [show u % 2 = 1 by omega, if_neg (by decide), if_neg (by decide)]
theorem pT_endOf (h : Tc S m) {u : Nat} (hu : u < 2 * nSt m) : f_T_endOf S (iN u) = some (iN (enn m u), S) := by
  have hs := h.1.s.2
  unfold f_T_endOf enn
  rw [iN_sh (by omega), hs_at h (half_lt hu), bd_s, if_neg (by decide), ck_of (iN_b (by omega) (by decide)), iN_c (by omega), iN_an (by omega), (h.e (half_lt hu)).1, (h.e (half_lt hu)).2.1]
  by_cases h2 : u % 2 = 0
  · rw [h2, if_pos (by decide), if_pos rfl]
  · rw [show u % 2 = 1 by omega, if_neg (by decide), if_neg (by decide)]
theorem pT_wideOf (h : Tc S m) {u : Nat} (hu : u < 2 * nSt m) : f_T_wideOf S (iN u) = some (iN (qW m (u / 2)), S) := by
  have hs := h.1.s.2
  unfold f_T_wideOf
  rw [iN_sh (by omega), hs_at h (half_lt hu), bd_s, if_neg (by decide), ck_of (iN_b (by omega) (by decide)), iN_c (by omega), (h.e (half_lt hu)).2.2.1]
theorem pT_longOf (h : Tc S m) {u : Nat} (hu : u < 2 * nSt m) : f_T_longOf S (iN u) = some (iN (qL m (u / 2)), S) := by
  have hs := h.1.s.2
  unfold f_T_longOf
  rw [iN_sh (by omega), hs_at h (half_lt hu), bd_s, if_neg (by decide), ck_of (iN_b (by omega) (by decide)), iN_c (by omega), (h.e (half_lt hu)).2.2.2.2.2.1]
end
