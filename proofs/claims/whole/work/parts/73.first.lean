/-! far and first. -/
/-- the first of r numbers from i on -/
def fst1 (p : Nat → Bool) : Nat → Nat → Option Nat
  | 0, _ => none
  | r + 1, i => if p i = true then some i else fst1 p r (i + 1)
theorem fst1_more {p : Nat → Bool} : ∀ (j k i : Nat), (∀ x, i + j ≤ x → p x = false) → fst1 p (j + k) i = fst1 p j i := by
  intro j
  induction j with
  | zero =>
    intro k
    induction k with
    | zero => intro i _; rfl
    | succ k ih =>
      intro i h
      rw [Nat.zero_add]
      show (if p i = true then some i else fst1 p k (i + 1)) = none
      rw [if_neg (by rw [h i (by omega)]; decide)]
      have := ih (i + 1) (fun x hx => h x (by omega))
      rw [Nat.zero_add] at this
      exact this
  | succ j ih =>
    intro k i h
    rw [Nat.succ_add]
    show (if p i = true then some i else fst1 p (j + k) (i + 1)) = if p i = true then some i else fst1 p j (i + 1)
    rw [ih k (i + 1) (fun x hx => h x (by omega))]
theorem fst1_p {p : Nat → Bool} : ∀ (r i v : Nat), fst1 p r i = some v → p v = true ∧ i ≤ v ∧ v < i + r := by
  intro r
  induction r with
  | zero => intro i v h; cases h
  | succ r ih =>
    intro i v h
    rw [fst1] at h
    by_cases q : p i = true
    · rw [if_pos q] at h; cases h; exact ⟨q, by omega, by omega⟩
    · rw [if_neg q] at h
      obtain ⟨a, b, c⟩ := ih _ _ h
      exact ⟨a, by omega, by omega⟩
/-- the turn that a shortest way begins with -/
def nxt (d : Nat → Nat) (m : Nat → Int32) (E : Nat → Nat → Bool) (u : Nat) : Option Nat := if d u = 0 ∨ d u = 1000000 then none else fst1 (fun v => eC E (cIs m) u v && decide (d v + lNg m v = d u)) (2 * nSt m) 0
section
variable {k : cx} {S S1 S2 T : hs} {m m' : Nat → Int32} {l : Lz} {E : Nat → Nat → Bool}
theorem nxt_c {d : Nat → Nat} {u v : Nat} (h : nxt d m E u = some v) : cIs m v = true ∧ v < 2 * nSt m := by
  unfold nxt at h
  split at h
  · cases h
  · have := (fst1_p _ _ _ h).1
    rw [Bool.and_eq_true] at this
    have := (eC_c this.1).2.1
    exact ⟨this, cIs_lt this⟩
theorem hC_y (h : Tc T m) {y : Int32} (q : 0 ≤ y.toInt ∧ y.toInt < (nCr m : Int)) : f_T_hasCrossing T y = some (1, T) := by rw [pT_hasCrossing h, decide_eq_true q]; rfl
theorem hC_n (h : Tc T m) {y : Int32} (q : ¬ (0 ≤ y.toInt ∧ y.toInt < (nCr m : Int))) : f_T_hasCrossing T y = some (0, T) := by rw [pT_hasCrossing h, decide_eq_false q]; rfl
theorem mC_y (h : Tn T m) {y : Int32} (q : 0 ≤ y.toInt ∧ y.toInt < (nCr m : Int)) : f_M_is T y (1 : Int32) = some (1, T) := by
  have := pM_is (k := 1) (n := nCr m) (by omega) (by have := h.1.c.2; omega) h.c y
  rw [decide_eq_true q] at this
  exact this
theorem mC_n (h : Tn T m) {y : Int32} (q : ¬ (0 ≤ y.toInt ∧ y.toInt < (nCr m : Int))) : f_M_is T y (1 : Int32) = some (0, T) := by
  have := pM_is (k := 1) (n := nCr m) (by omega) (by have := h.1.c.2; omega) h.c y
  rw [decide_eq_false q] at this
  exact this
theorem hco_y (h : Tc T m) {x : Int32} (q : cIx m x = true) : f_T_hasCourse T x = some (1, T) := by rw [pT_hasCourse h, q]; rfl
theorem hco_n (h : Tc T m) {x : Int32} (q : cIx m x = false) : f_T_hasCourse T x = some (0, T) := by rw [pT_hasCourse h, q]; rfl
theorem mco_y (h : Tn T m) {x : Int32} (q : cIx m x = true) : f_M_isCourse T x = some (1, T) := by rw [pM_isCourse h, q]; rfl
theorem mco_n (h : Tn T m) {x : Int32} (q : cIx m x = false) : f_M_isCourse T x = some (0, T) := by rw [pM_isCourse h, q]; rfl
theorem f144 (h : Fr (fun q => q = 144) S T) : Fr Scr S T := h.mono (fun a z => by have z : a = 144 := z; unfold Scr; omega)
theorem f202 (h : Fr (fun q => q = 202) S T) : Fr Scr S T := h.mono (fun a z => by have z : a = 202 := z; unfold Scr; omega)
theorem Wy.f144 (h : Wy S m E) (f : Fr (fun q => q = 144) S T) : Wy T m E := h.fr f (fun a h1 h2 z => by have z : a = 144 := z; omega)
theorem eC_lt {u v : Nat} (h : eC E (cIs m) u v = true) : u < 2 * nSt m ∧ v < 2 * nSt m := ⟨cIs_lt (eC_c h).1, cIs_lt (eC_c h).2.1⟩
theorem eq_i {a b : Nat} (ha : a < 2147483648) (hb : b < 2147483648) (h : a ≠ b) : iN a ≠ iN b := fun z => h ((iN_eq ha hb).mp z)
theorem ne6 {a : Nat} (ha : a < 2147483648) (h : a ≠ 1000000) : ¬ iN a = (1000000 : Int32) := eq_i (b := 1000000) ha (by decide) h
theorem ne0 {a : Nat} (ha : a < 2147483648) (h : a ≠ 0) : ¬ iN a = (0 : Int32) := eq_i (b := 0) ha (by decide) h
theorem lt5 {a : Nat} (h : a < 100000) : iN a < (100000 : Int32) := lt_y (iN_i (by omega)) tl5M (by omega)
theorem eq6 : iN 1000000 = (1000000 : Int32) := rfl
/-- what far needs of both -/
theorem far2 (h : Inv k S) (ht : IvT S m l) {w : Nat} (hw : w ≤ 9) (c : Int32) : ∃ S1 U1, f_W_prepare_34 S (iN w) (-1 : Int32) = some (0, S1) ∧ f_W_measureTo S1 c = some (0, U1) ∧ Fr Scr S U1 ∧ Wy U1 m (fun u v => mgW m l u v w) ∧ Ms U1 m (fun u v => mgW m l u v w) (tgC m c) ∧ IvT U1 m l ∧ ∃ S2, f_M_findOnto U1 (iN w) (0 : Int32) = some (0, S2) ∧ Fr Scr U1 S2 ∧ On S2 (eC (fun u v => mgW m l u v w) (cIs m)) ∧ Tn S2 m := by
  obtain ⟨S1, a1, a2, a3⟩ := prep2 h ht hw
  obtain ⟨U1, b1, b2, b3⟩ := pW_measureTo a3 ht.1.1 c
  have f := a2.trans (f144 b2)
  have ht1 := ht.fr f
  obtain ⟨S2, c1, c2, c3, c4⟩ := onto2 (fr3 h f) ht1 hw
  exact ⟨S1, U1, a1, b1, f, a3.f144 b2, b3, ht1, S2, c1, c2, c3, c4⟩
theorem q_far (h : Inv k S) (x y z : Int32) : Q2 k S (f_X_far S x y z) (fun T => f_M_far T x y z) := by
  obtain ⟨m, l, ht⟩ := h.1
  have hc := ht.1
  have hn := ht.2.1
  by_cases q : cIx m x = true
  · by_cases qc : 0 ≤ y.toInt ∧ y.toInt < (nCr m : Int)
    · by_cases q1 : 0 ≤ z.toInt ∧ z.toInt ≤ 9
      · obtain ⟨u, rfl, cu, hu, h40⟩ := cIx_e hc.1 q
        obtain ⟨w, rfl, hw, ew⟩ := iN_of q1.1
        obtain ⟨S1, U1, a1, a2, a3, a4, a5, a6, S2, a7, a8, a9, a10⟩ := far2 h ht (w := w) (by omega) y
        obtain ⟨S3, r, b1, b2, b3⟩ := pM_farOf (fun u v g => eC_lt g) hu y a10 a9
        have lf := pW_leftFrom a4 hc.1 a5.1 hu
        rcases far_cmp a5 b3 cu with ⟨e1, e2⟩ | ⟨e1, e2⟩
        · refine Q2.fr (r := iN r) h (S1 := U1) (S2 := S3) ?_ ?_ a3 (a8.trans (f202 b2))
          · unfold f_X_far
            rw [hco_y hc q, bd_s, if_neg (by decide), hC_y hc qc, bd_s, if_neg (by decide), (isWidth_y q1).1, bd_s, if_neg (by decide), a1, bd_s, a2, bd_s, lf, bd_s, e1, if_neg (ne6 (by omega) (by omega))]
          · show f_M_far U1 _ _ _ = _
            unfold f_M_far
            rw [mco_y a6.2.1 q, bd_s, if_neg (by decide), mC_y a6.2.1 qc, bd_s, if_neg (by decide), (isWidth_y q1).2, bd_s, if_neg (by decide), a7, bd_s, b1, bd_s, if_pos (lt5 (by omega))]
        · refine Q2.fr (r := -3) h (S1 := U1) (S2 := S3) ?_ ?_ a3 (a8.trans (f202 b2))
          · unfold f_X_far
            rw [hco_y hc q, bd_s, if_neg (by decide), hC_y hc qc, bd_s, if_neg (by decide), (isWidth_y q1).1, bd_s, if_neg (by decide), a1, bd_s, a2, bd_s, lf, bd_s, e1, if_pos eq6]
          · show f_M_far U1 _ _ _ = _
            unfold f_M_far
            rw [mco_y a6.2.1 q, bd_s, if_neg (by decide), mC_y a6.2.1 qc, bd_s, if_neg (by decide), (isWidth_y q1).2, bd_s, if_neg (by decide), a7, bd_s, b1, bd_s, e2, if_neg (by decide)]
      · refine Q2.same (r := -1) h ?_ ?_
        · unfold f_X_far
          rw [hco_y hc q, bd_s, if_neg (by decide), hC_y hc qc, bd_s, if_neg (by decide), (isWidth_n q1).1, bd_s, if_pos rfl]
        · show f_M_far S _ _ _ = _
          unfold f_M_far
          rw [mco_y hn q, bd_s, if_neg (by decide), mC_y hn qc, bd_s, if_neg (by decide), (isWidth_n q1).2, bd_s, if_pos rfl]
    · refine Q2.same (r := -1) h ?_ ?_
      · unfold f_X_far
        rw [hco_y hc q, bd_s, if_neg (by decide), hC_n hc qc, bd_s, if_pos rfl]
      · show f_M_far S _ _ _ = _
        unfold f_M_far
        rw [mco_y hn q, bd_s, if_neg (by decide), mC_n hn qc, bd_s, if_pos rfl]
  · have q := Bool.eq_false_iff.mpr q
    refine Q2.same (r := -1) h ?_ ?_
    · unfold f_X_far
      rw [hco_n hc q, bd_s, if_pos rfl]
    · show f_M_far S _ _ _ = _
      unfold f_M_far
      rw [mco_n hn q, bd_s, if_pos rfl]
theorem wff_l (hW : Wy T m E) (v0 : VM m) (hM : dOk T m) {u : Nat} (cu : cIs m u = true) : ∀ (r v n : Nat), v + r = 2 * nSt m → r < n → lp_W_firstFrom_21 (iN u) (iN (dF T u)) n T (iN v) = some (oC (-3) (fst1 (fun v => eC E (cIs m) u v && decide (dF T v + lNg m v = dF T u)) r v), T) := by
  have hss := v0.s.2
  have hu := cIs_lt cu
  intro r
  induction r with
  | zero =>
    intro v n hv hn
    obtain ⟨n, rfl⟩ : ∃ q, n = q + 1 := ⟨n - 1, by omega⟩
    obtain rfl : v = 2 * nSt m := by omega
    rw [lp_W_firstFrom_21, hW.1.1, if_pos ((iN_le (by omega) (by omega)).mpr (by omega))]
    rfl
  | succ r ih =>
    intro v n hv hn
    obtain ⟨n, rfl⟩ : ∃ q, n = q + 1 := ⟨n - 1, by omega⟩
    obtain ⟨e1, e2⟩ := hM v (by omega)
    have e3 := (hM u hu).2
    have lv := lNg_r v0 (v := v) (by omega)
    have e4 : gI T 141 v = iN (lNg m v) := (hW.1.2.2.1 v (by omega)).2.2
    have jv : jb (gJ T 142 u &&& gJ T 138 8) v = eC E (cIs m) u v := by
      rw [jb_and, hW.2 u hu v (by omega), hW.1.2.2.2.1 v (by omega)]
      unfold eC
      rw [cu, Bool.true_and, Bool.and_comm]
    rw [lp_W_firstFrom_21, hW.1.1, if_neg (fun z => by have := (iN_le (by omega) (by omega)).mp z; omega), ck_of (iN_b (by omega) (by decide)), iN_c (by omega), pX_isIn (by omega), bd_s, if_bI, jv, fst1, iN_1]
    cases g : eC E (cIs m) u v with
    | false =>
      rw [bt_f, if_neg (by rw [Bool.false_and]; decide)]
      exact ih (v + 1) n (by omega) (by omega)
    | true =>
      rw [bt_t, ck_of (iN_b (by omega) (by decide)), iN_c (by omega), e1, e4, iN_a, Bool.true_and]
      by_cases q : dF T v + lNg m v = dF T u
      · rw [if_pos (by rw [q]), if_pos (decide_eq_true q)]
        rfl
      · rw [if_neg (eq_i (by omega) (by omega) q), if_neg (by rw [decide_eq_false q]; decide)]
        exact ih (v + 1) n (by omega) (by omega)
theorem pW_firstFrom (hW : Wy T m E) (v0 : VM m) (hM : dOk T m) {u : Nat} (cu : cIs m u = true) : f_W_firstFrom T (iN u) = some (oC (-3) (nxt (dF T) m E u), T) := by
  have hss := v0.s.2
  have hu := cIs_lt cu
  have e3 := (hM u hu).2
  unfold f_W_firstFrom nxt
  rw [pW_leftFrom hW v0 hM hu, bd_s]
  by_cases q1 : dF T u = 1000000
  · rw [if_pos (by rw [q1]; rfl), if_pos (Or.inr q1)]
    rfl
  · by_cases q2 : dF T u = 0
    · rw [if_neg (ne6 (by omega) q1), if_pos (by rw [q2]; rfl), if_pos (Or.inl q2)]
      rfl
    · rw [if_neg (ne6 (by omega) q1), if_neg (ne0 (by omega) q2), if_neg (fun z => z.elim q2 q1)]
      exact wff_l hW v0 hM cu (2 * nSt m) 0 1000 (by omega) (by omega)
theorem mfo_l {Tk : hs} {c : Int32} (hM : Ms Tk m E (tgC m c)) {u : Nat} (cu : cIs m u = true) (d0 : 0 < dF Tk u) (d1 : dF Tk u ≤ 720) : ∀ (r v n : Nat) (T : hs), Tn T m → On T (eC E (cIs m)) → v + r = 40 → r < n → ∃ U, lp_M_firstOf_10 (iN u) c (iN (dF Tk u)) n T (iN v) = some (oC (-1) (fst1 (fun v => eC E (cIs m) u v && decide (dF Tk v + lNg m v = dF Tk u)) r v), U) ∧ Fr (fun q => q = 202) T U := by
  intro r
  induction r with
  | zero =>
    intro v n T hT hO hv hn
    obtain ⟨n, rfl⟩ : ∃ q, n = q + 1 := ⟨n - 1, by omega⟩
    obtain rfl : v = 40 := by omega
    exact ⟨T, by rw [lp_M_firstOf_10, if_pos i40e]; rfl, Fr.rfl'⟩
  | succ r ih =>
    intro v n T hT hO hv hn
    obtain ⟨n, rfl⟩ : ∃ q, n = q + 1 := ⟨n - 1, by omega⟩
    have hss := hT.1.s.2
    have hu := cIs_lt cu
    have d40 : decide (v < 40) = true := decide_eq_true (by omega)
    rw [lp_M_firstOf_10, if_neg (i40 (by omega)), if_neg (le_n (iN_i (by omega)) tl0 (by omega)), if_neg (le_n (a := 100000) rfl (iN_i (by omega)) (by omega)), ck_of (iN_b (by omega) (by decide)), iN_c (by omega), pM_hasBit (by omega), bd_s, if_bI, hO u (by omega) v (by omega), d40, Bool.true_and, fst1, iN_1]
    cases g : eC E (cIs m) u v with
    | false =>
      rw [bt_f, if_neg (by rw [Bool.false_and]; decide)]
      exact ih (v + 1) n T hT hO (by omega) (by omega)
    | true =>
      have hv2 := (eC_lt g).2
      have cv := (eC_c g).2.1
      have lv := lNg_r hT.1 hv2
      have lo : f_M_longOf T (iN v / (2 : Int32)) = some (iN (lNg m v), T) := by rw [iN_d2 (by omega)]; exact pM_longOf hT (half_lt hv2)
      obtain ⟨V, rv, b1, b2, b3⟩ := pM_farOf (fun u v g => eC_lt g) hv2 c hT hO
      have cmp := far_cmp hM b3 cv
      rw [bt_t, lo, bd_s, b1, bd_s, iN_a, Bool.true_and]
      by_cases q : dF Tk v + lNg m v = dF Tk u
      · rw [if_pos (by rw [← q]; congr 1; omega), if_pos (decide_eq_true q)]
        exact ⟨V, rfl, b2⟩
      · rw [if_neg (eq_i (by omega) (by omega) (by omega)), if_neg (by rw [decide_eq_false q]; decide)]
        obtain ⟨U, c1, c2⟩ := ih (v + 1) n V (hT.fr b2 (n202 (by decide))) (hO.fr b2 (n202 (by decide))) (by omega) (by omega)
        exact ⟨U, c1, b2.trans c2⟩
theorem pM_firstOf {Tk : hs} {c : Int32} (hM : Ms Tk m E (tgC m c)) {u : Nat} (cu : cIs m u = true) (hT : Tn T m) (hO : On T (eC E (cIs m))) : ∃ U, f_M_firstOf T (iN u) c = some (oC (-1) (nxt (dF Tk) m E u), U) ∧ Fr (fun q => q = 202) T U := by
  have hss := hT.1.s.2
  have hu := cIs_lt cu
  obtain ⟨V, r, b1, b2, b3⟩ := pM_farOf (fun u v g => eC_lt g) hu c hT hO
  unfold f_M_firstOf nxt
  rw [b1, bd_s]
  rcases far_cmp hM b3 cu with ⟨e1, e2⟩ | ⟨e1, e2⟩
  · by_cases q : r = 0
    · refine ⟨V, ?_, b2⟩
      rw [if_pos (Or.inl (by omega)), lp_M_firstOf_10, if_neg (by decide), q, if_pos (by decide)]
      rfl
    · rw [if_neg (by omega), ← e1]
      obtain ⟨U, c1, c2⟩ := mfo_l hM cu (by omega) (by omega) 40 0 1000 V (hT.fr b2 (n202 (by decide))) (hO.fr b2 (n202 (by decide))) (by omega) (by omega)
      refine ⟨U, Eq.trans c1 ?_, b2.trans c2⟩
      have := fst1_more (p := fun v => eC E (cIs m) u v && decide (dF Tk v + lNg m v = dF Tk u)) (2 * nSt m) (40 - 2 * nSt m) 0 (fun x hx => by
        cases g : eC E (cIs m) u x with
        | false => rfl
        | true => have := (eC_lt g).2; omega)
      rw [show 2 * nSt m + (40 - 2 * nSt m) = 40 from by omega] at this
      rw [this]
  · refine ⟨V, ?_, b2⟩
    rw [if_pos (Or.inr e1), lp_M_firstOf_10, if_neg (by decide), e2, if_neg (by decide), if_pos (by decide)]
    rfl
theorem q_first (h : Inv k S) (x y z : Int32) : Q2 k S (f_X_first S x y z) (fun T => f_M_first T x y z) := by
  obtain ⟨m, l, ht⟩ := h.1
  have hc := ht.1
  have hn := ht.2.1
  by_cases q : cIx m x = true
  · by_cases qc : 0 ≤ y.toInt ∧ y.toInt < (nCr m : Int)
    · by_cases q1 : 0 ≤ z.toInt ∧ z.toInt ≤ 9
      · obtain ⟨u, rfl, cu, hu, h40⟩ := cIx_e hc.1 q
        obtain ⟨w, rfl, hw, ew⟩ := iN_of q1.1
        obtain ⟨S1, U1, a1, a2, a3, a4, a5, a6, S2, a7, a8, a9, a10⟩ := far2 h ht (w := w) (by omega) y
        obtain ⟨S3, b1, b2⟩ := pM_firstOf a5 cu a10 a9
        have lf := pW_firstFrom a4 hc.1 a5.1 cu
        have hss := hc.1.s.2
        refine Q2.fr (r := oC (-3) (nxt (dF U1) m (fun u v => mgW m l u v w) u)) h (S1 := U1) (S2 := S3) ?_ ?_ a3 (a8.trans (f202 b2))
        · unfold f_X_first
          rw [hco_y hc q, bd_s, if_neg (by decide), hC_y hc qc, bd_s, if_neg (by decide), (isWidth_y q1).1, bd_s, if_neg (by decide), a1, bd_s, a2, bd_s, lf, bd_s]
        · show f_M_first U1 _ _ _ = _
          unfold f_M_first
          rw [mco_y a6.2.1 q, bd_s, if_neg (by decide), mC_y a6.2.1 qc, bd_s, if_neg (by decide), (isWidth_y q1).2, bd_s, if_neg (by decide), a7, bd_s, b1, bd_s]
          cases hx : nxt (dF U1) m (fun u v => mgW m l u v w) u with
          | none => rfl
          | some v =>
            have := (nxt_c hx).2
            exact if_pos (le_y tl0 (iN_i (by omega)) (by omega))
      · refine Q2.same (r := -1) h ?_ ?_
        · unfold f_X_first
          rw [hco_y hc q, bd_s, if_neg (by decide), hC_y hc qc, bd_s, if_neg (by decide), (isWidth_n q1).1, bd_s, if_pos rfl]
        · show f_M_first S _ _ _ = _
          unfold f_M_first
          rw [mco_y hn q, bd_s, if_neg (by decide), mC_y hn qc, bd_s, if_neg (by decide), (isWidth_n q1).2, bd_s, if_pos rfl]
    · refine Q2.same (r := -1) h ?_ ?_
      · unfold f_X_first
        rw [hco_y hc q, bd_s, if_neg (by decide), hC_n hc qc, bd_s, if_pos rfl]
      · show f_M_first S _ _ _ = _
        unfold f_M_first
        rw [mco_y hn q, bd_s, if_neg (by decide), mC_n hn qc, bd_s, if_pos rfl]
  · have q := Bool.eq_false_iff.mpr q
    refine Q2.same (r := -1) h ?_ ?_
    · unfold f_X_first
      rw [hco_n hc q, bd_s, if_pos rfl]
    · show f_M_first S _ _ _ = _
      unfold f_M_first
      rw [mco_n hn q, bd_s, if_pos rfl]
end
