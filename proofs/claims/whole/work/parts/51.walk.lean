/-! Walkers; questions of the town. -/
section
variable {k : cx} {S S1 S2 T : hs} {m m' : Nat → Int32} {l : Lz}
theorem VM.wk (v : VM m) {n : Nat} (hn : n ≤ 4) (e : ∀ i, i < 129 → i ≠ 3 → m' i = m i) (e3 : m' 3 = iN n) (hk : ∀ i, i < n → ∃ c d : Nat, m' (129 + 3 * i) = iN c ∧ c < 2 * nSt m ∧ m' (130 + 3 * i) = iN d ∧ d ≤ 9) : VM m' ∧ nCr m' = nCr m ∧ nSt m' = nSt m ∧ nWk m' = n ∧ nDy m' = nDy m := by
  have hc := v.c.2
  have hs := v.s.2
  refine VM.of (nc := nCr m) (ns := nSt m) (nw := n) (nd := nDy m) (by rw [e _ (by omega) (by omega)]; exact v.c.1) v.c.2 (by rw [e _ (by omega) (by omega)]; exact v.s.1) v.s.2 e3 hn (by rw [e _ (by omega) (by omega)]; exact v.d.1) v.d.2 (fun i hi => ?_) (fun i j hi hj => ?_) (fun j hj => ?_) hk
  · rw [e _ (by omega) (by omega), e _ (by omega) (by omega)]; exact v.x_ i hi
  · rw [e _ (by omega) (by omega), e _ (by omega) (by omega), e _ (by omega) (by omega), e _ (by omega) (by omega)]; exact v.u_ i j hi hj
  · rw [e _ (by omega) (by omega), e _ (by omega) (by omega), e _ (by omega) (by omega), e _ (by omega) (by omega), e _ (by omega) (by omega)]; exact v.e_ j hj
theorem Tc.wk (h : Tc S m) {n : Nat} (hn : n ≤ 4) (e : ∀ i, i < 129 → i ≠ 3 → m' i = m i) (e3 : m' 3 = iN n) (hk : ∀ i, i < n → ∃ c d : Nat, m' (129 + 3 * i) = iN c ∧ c < 2 * nSt m ∧ m' (130 + 3 * i) = iN d ∧ d ≤ 9)
    (g : ∀ a i, 34 ≤ a → a < 70 → ¬ (a = 34 ∧ i = 7) → gI T a i = gI S a i) (g7 : gI T 34 7 = m' 3) (gk : ∀ i, i < n → gI T (70 + i) 0 = m' (129 + 3 * i) ∧ gI T (70 + i) 1 = m' (130 + 3 * i) ∧ gI T (70 + i) 2 = m' (131 + 3 * i)) : Tc T m' := by
  obtain ⟨v', c1, c2, c3, c4⟩ := h.1.wk hn e e3 hk
  refine ⟨v', ?_⟩
  have v := h.1
  have hs := v.s.2
  have hc := v.c.2
  obtain ⟨t1, t2, t3, t4, t5, t6, t7⟩ := h.2
  unfold TB
  rw [c1, c2, c3]
  refine ⟨?_, ?_, g7, ?_, fun i hi => ?_, fun i hi => ?_, gk⟩
  · show gI _ 34 5 = _; rw [g _ _ (by omega) (by omega) (by omega), e _ (by omega) (by omega)]; exact t1
  · show gI _ 34 6 = _; rw [g _ _ (by omega) (by omega) (by omega), e _ (by omega) (by omega)]; exact t2
  · show gI _ 34 8 = _; rw [g _ _ (by omega) (by omega) (by omega), e _ (by omega) (by omega)]; exact t4
  · show gI _ (36 + i) 0 = _ ∧ gI _ (36 + i) 1 = _
    rw [g _ _ (by omega) (by omega) (by omega), g _ _ (by omega) (by omega) (by omega), e _ (by omega) (by omega), e _ (by omega) (by omega)]; exact t5 i hi
  · have hA := (v.e hi).1.2
    have hB := (v.e hi).2.1.2
    have t := t6 i hi
    simp only [] at t
    obtain ⟨ea, eb, eL⟩ := qL_cg (m' := m') v hi (fun i q1 q2 => e i (by omega) (by omega)) (e _ (by omega) (by omega)) (e _ (by omega) (by omega))
    rw [ea, eb, eL]
    simp only []
    rw [g (49 + i) 0 (by omega) (by omega) (by omega), g (49 + i) 1 (by omega) (by omega) (by omega), g (49 + i) 2 (by omega) (by omega) (by omega), g (49 + i) 3 (by omega) (by omega) (by omega), g (49 + i) 4 (by omega) (by omega) (by omega), g (49 + i) 5 (by omega) (by omega) (by omega), g (49 + i) 6 (by omega) (by omega) (by omega), g (49 + i) 7 (by omega) (by omega) (by omega), e (29 + 5 * i) (by omega) (by omega), e (30 + 5 * i) (by omega) (by omega), e (31 + 5 * i) (by omega) (by omega), e (32 + 5 * i) (by omega) (by omega), e (33 + 5 * i) (by omega) (by omega), e (5 + 2 * qB m i) (by omega) (by omega), e (5 + 2 * qA m i) (by omega) (by omega), e (6 + 2 * qB m i) (by omega) (by omega), e (6 + 2 * qA m i) (by omega) (by omega)]
    exact t
theorem isWidth_y {x : Int32} (h : 0 ≤ x.toInt ∧ x.toInt ≤ 9) : f_X_isWidth S x = some (1, S) ∧ f_M_isWidth S x = some (1, S) := by
  constructor
  · unfold f_X_isWidth; rw [if_neg (lt_n rfl tl0 (by omega)), if_neg (lt_n tl9 rfl (by omega))]
  · unfold f_M_isWidth; rw [in_y tl0 tl9 h, bd_s, ck_of (by decide)]
theorem isWidth_n {x : Int32} (h : ¬ (0 ≤ x.toInt ∧ x.toInt ≤ 9)) : f_X_isWidth S x = some (0, S) ∧ f_M_isWidth S x = some (0, S) := by
  constructor
  · unfold f_X_isWidth
    by_cases q : x.toInt < 0
    · rw [if_pos (lt_y rfl tl0 q)]
    · rw [if_neg (lt_n rfl tl0 (by omega)), if_pos (lt_y tl9 rfl (by omega))]
  · unfold f_M_isWidth; rw [in_n tl0 tl9 h, bd_s, ck_of (by decide)]
theorem isCN_y {x : Int32} (h : 0 ≤ x.toInt ∧ x.toInt ≤ 39) : f_X_isCourseNumber S x = some (1, S) ∧ f_M_isIndex S x = some (1, S) := by
  constructor
  · unfold f_X_isCourseNumber; rw [if_neg (lt_n rfl tl0 (by omega)), if_neg (le_n tl40 rfl (by omega))]
  · unfold f_M_isIndex; rw [in_y tl0 tl39 h, bd_s, ck_of (by decide)]
theorem isCN_n {x : Int32} (h : ¬ (0 ≤ x.toInt ∧ x.toInt ≤ 39)) : f_X_isCourseNumber S x = some (0, S) ∧ f_M_isIndex S x = some (0, S) := by
  constructor
  · unfold f_X_isCourseNumber
    by_cases q : x.toInt < 0
    · rw [if_pos (lt_y rfl tl0 q)]
    · rw [if_neg (lt_n rfl tl0 (by omega)), if_pos (le_y tl40 rfl (by omega))]
  · unfold f_M_isIndex; rw [in_n tl0 tl39 h, bd_s, ck_of (by decide)]
theorem pT_hasCourseFor (h : Tc S m) (x : Int32) {w : Nat} (hw : w ≤ 9) : f_T_hasCourseFor S x (iN w) = some (bI (cIx m x && decide (w ≤ qW m (x.toNatClampNeg / 2))), S) := by
  have hs := h.1.s.2
  unfold f_T_hasCourseFor
  rw [pT_hasCourse h, bd_s, if_bI]
  cases q : cIx m x with
  | false => rfl
  | true =>
    obtain ⟨u, rfl, cu, hu, -⟩ := cIx_e h.1 q
    have e := (h.1.e (half_lt hu)).2.2.2.1.2
    rw [bt_t, pT_wideOf h hu, bd_s, iN_c (by omega)]
    by_cases z : w ≤ qW m (u / 2)
    · rw [if_neg (fun y => by have := (iN_lt (by omega) (by omega)).mp y; omega), decide_eq_true z]; rfl
    · rw [if_pos ((iN_lt (by omega) (by omega)).mpr (by omega)), decide_eq_false z]; rfl
theorem wkI (h : Tn S m) {i f : Nat} (hi : i < 4) (hf : f < 3) : f_M_walkerIs S (iN i) (iN f) = some (m (129 + 3 * i + f), S) := by
  unfold f_M_walkerIs
  have e : (129 : Int32) + (3 : Int32) * iN i + iN f = iN (129 + 3 * i + f) := by
    show iN 129 + iN 3 * iN i + iN f = _
    rw [iN_m, iN_a, iN_a]
  rw [e, ck_of (iN_b (by omega) (by decide)), iN_c (by omega), h.at (by omega)]
theorem wkI0 (h : Tn S m) {i : Nat} (hi : i < nWk m) : f_M_walkerIs S (iN i) (0 : Int32) = some (iN (qC m i), S) := by
  have := h.1.w.2
  rw [← (h.1.k hi).1.1]; exact wkI (f := 0) h (by omega) (by omega)
theorem wkI1 (h : Tn S m) {i : Nat} (hi : i < nWk m) : f_M_walkerIs S (iN i) (1 : Int32) = some (iN (qD m i), S) := by
  have := h.1.w.2
  have e : m (130 + 3 * i) = m (129 + 3 * i + 1) := by congr 1; omega
  rw [← (h.1.k hi).2.1, e]; exact wkI (f := 1) h (by omega) (by omega)
theorem hw_y (h : Tc S m) {a : Nat} (ha : a < nWk m) : f_T_hasWalker S (iN a) = some (1, S) := by
  have := h.1.w.2
  rw [pT_hasWalker h, iN_i (by omega), decide_eq_true ⟨by omega, by omega⟩]; rfl
theorem i3_y (h : Tn S m) {a : Nat} (ha : a < nWk m) : f_M_is S (iN a) (3 : Int32) = some (1, S) := by
  have := h.1.w.2
  rw [is3 h, iN_i (by omega), decide_eq_true ⟨by omega, by omega⟩]; rfl
theorem q_walkerOf (h : Inv k S) (x y : Int32) : Q2 k S (f_X_walkerOf S x y) (fun T => f_M_walkerOf T x y) := by
  obtain ⟨m, l, ht⟩ := h.1
  have hc := ht.1
  have hn := ht.2.1
  have hw := hc.1.w.2
  by_cases q : 0 ≤ x.toInt ∧ x.toInt < (nWk m : Int)
  · obtain ⟨a, rfl, ha, ea⟩ := iN_of q.1
    have ha' : a < nWk m := by omega
    by_cases q2 : 0 ≤ y.toInt ∧ y.toInt ≤ 2
    · obtain ⟨b, rfl, hb, eb⟩ := iN_of q2.1
      refine Q2.same (r := m (129 + 3 * a + b)) h ?_ ?_
      · unfold f_X_walkerOf
        rw [hw_y hc ha', bd_s, if_neg (by decide), if_neg (lt_n rfl tl0 (by omega)), if_pos (lt_y rfl tl3 (by omega)), ck_of (iN_b (by omega) (by decide)), ck_of (iN_b (by omega) (by decide)), iN_c (by omega), iN_c (by omega)]
        have t := hc.2.2.2.2.2.2.2 a ha'
        have : b = 0 ∨ b = 1 ∨ b = 2 := by omega
        rcases this with rfl | rfl | rfl
        · rw [show gI S (70 + a) 0 = m (129 + 3 * a) from t.1, Nat.add_zero]
        · rw [show gI S (70 + a) 1 = m (130 + 3 * a) from t.2.1, show 130 + 3 * a = 129 + 3 * a + 1 by omega]
        · rw [show gI S (70 + a) 2 = m (131 + 3 * a) from t.2.2, show 131 + 3 * a = 129 + 3 * a + 2 by omega]
      · show f_M_walkerOf S _ _ = _
        unfold f_M_walkerOf
        rw [i3_y hn ha', bd_s, if_neg (by decide), in_y tl0 tl2 q2, bd_s, if_neg (by decide), wkI hn (by omega) (by omega), bd_s]
    · refine Q2.same (r := -1) h ?_ ?_
      · unfold f_X_walkerOf
        rw [hw_y hc ha', bd_s, if_neg (by decide)]
        by_cases z : y.toInt < 0
        · rw [if_pos (lt_y rfl tl0 z)]
        · rw [if_neg (lt_n rfl tl0 (by omega)), if_neg (lt_n rfl tl3 (by omega))]
      · show f_M_walkerOf S _ _ = _
        unfold f_M_walkerOf
        rw [i3_y hn ha', bd_s, if_neg (by decide), in_n tl0 tl2 q2, bd_s, if_pos rfl]
  · refine Q2.same (r := -1) h ?_ ?_
    · unfold f_X_walkerOf
      rw [pT_hasWalker hc, decide_eq_false q, bd_s, if_bI, bt_f]
    · show f_M_walkerOf S _ _ = _
      unfold f_M_walkerOf
      rw [is3 hn, decide_eq_false q, bd_s, if_bI, bt_f]
theorem q_walker (h : Inv k S) (x y : Int32) : Q2 k S (f_X_walker S x y) (fun T => f_M_walker T x y) := by
  obtain ⟨m, l, ht⟩ := h.1
  have hc := ht.1
  have hn := ht.2.1
  have hw := hc.1.w.2
  have hs := hc.1.s.2
  by_cases q2 : 0 ≤ y.toInt ∧ y.toInt ≤ 9
  · obtain ⟨d, rfl, hd, ed⟩ := iN_of q2.1
    by_cases q : cIx m x = true
    · obtain ⟨u, rfl, cu, hu, -⟩ := cIx_e hc.1 q
      have e := (hc.1.e (half_lt hu)).2.2.2.1.2
      by_cases q3 : d ≤ qW m (u / 2)
      · by_cases q4 : nWk m < 4
        · have h1 : f_X_walker S (iN u) (iN d) = some (iN (nWk m), uI (uI (uI (uI S (70 + nWk m) 0 (iN u)) (70 + nWk m) 1 (iN d)) (70 + nWk m) 2 (0 : Int32)) 34 7 (iN (nWk m + 1))) := by
            unfold f_X_walker f_T_addWalker
            have p : gI S 34 7 < (4 : Int32) := lt_y (a := (nWk m : Int)) (by rw [hc.w]; exact iN_i (by omega)) tl4 (by omega)
            rw [(isWidth_y q2).1, bd_s, if_neg (by decide), pT_hasCourseFor hc _ (by omega), q, iN_c (by omega), decide_eq_true q3, bd_s, if_bI, Bool.true_and, bt_t, if_pos p, if_pos p, hc.w, ck_of (iN_b (by omega) (by decide)), iN_c (by omega), bd_s, gI_ua (by omega), gI_ua (by omega), gI_ua (by omega), hc.w, iN_1]
          have f1 : Fr (fun a => (34 ≤ a ∧ a < 74) ∨ Scr a) S (uI (uI (uI (uI S (70 + nWk m) 0 (iN u)) (70 + nWk m) 1 (iN d)) (70 + nWk m) 2 (0 : Int32)) 34 7 (iN (nWk m + 1))) := (((Fr.rfl'.uI (Or.inl (by omega))).uI (Or.inl (by omega))).uI (Or.inl (by omega))).uI (Or.inl (by omega))
          have hn1 := hn.fr f1 (fun z => z.elim (by omega) (nScr (by omega)))
          let m' := up1 (up1 (up1 (up1 m (129 + 3 * nWk m) (iN u)) (130 + 3 * nWk m) (iN d)) (131 + 3 * nWk m) (0 : Int32)) 3 (iN (nWk m + 1))
          have em : ∀ i, i < 129 + 3 * nWk m ∨ 132 + 3 * nWk m ≤ i → i ≠ 3 → m' i = m i := fun i q1 q2 => by show up1 _ _ _ i = _; rw [up1_n q2, up1_n (by omega), up1_n (by omega), up1_n (by omega)]
          have m0 : m' (129 + 3 * nWk m) = iN u := by show up1 _ _ _ _ = _; rw [up1_n (by omega), up1_n (by omega), up1_n (by omega), up1_s]
          have m1 : m' (130 + 3 * nWk m) = iN d := by show up1 _ _ _ _ = _; rw [up1_n (by omega), up1_n (by omega), up1_s]
          have m2 : m' (131 + 3 * nWk m) = 0 := by show up1 _ _ _ _ = _; rw [up1_n (by omega), up1_s]
          have m3 : m' 3 = iN (nWk m + 1) := up1_s
          have hk : ∀ i, i < nWk m + 1 → ∃ c d : Nat, m' (129 + 3 * i) = iN c ∧ c < 2 * nSt m ∧ m' (130 + 3 * i) = iN d ∧ d ≤ 9 := fun i hi => by
            by_cases z : i = nWk m
            · subst z; exact ⟨u, d, m0, hu, m1, by omega⟩
            · rw [em _ (by omega) (by omega), em _ (by omega) (by omega)]; exact hc.1.k_ i (by omega)
          have c1 : Tc (uI (uI (uI (uI S (70 + nWk m) 0 (iN u)) (70 + nWk m) 1 (iN d)) (70 + nWk m) 2 (0 : Int32)) 34 7 (iN (nWk m + 1))) m' := by
            refine hc.wk (n := nWk m + 1) (by omega) (fun i q1 q2 => em i (by omega) q2) m3 hk (fun a i q1 q2 q3 => by rw [gI_u, if_neg q3, gI_ua (by omega), gI_ua (by omega), gI_ua (by omega)]) (by rw [gI_us, m3]) (fun i hi => ?_)
            by_cases z : i = nWk m
            · subst z
              rw [m0, m1, m2]
              refine ⟨?_, ?_, ?_⟩ <;> simp only [gI_u] <;> grind
            · rw [em _ (by omega) (by omega), em _ (by omega) (by omega), em _ (by omega) (by omega), gI_ua (by omega), gI_ua (by omega), gI_ua (by omega), gI_ua (by omega), gI_ua (by omega), gI_ua (by omega), gI_ua (by omega), gI_ua (by omega), gI_ua (by omega), gI_ua (by omega), gI_ua (by omega), gI_ua (by omega)]
              exact hc.2.2.2.2.2.2.2 i (by omega)
          generalize uI (uI (uI (uI S (70 + nWk m) 0 (iN u)) (70 + nWk m) 1 (iN d)) (70 + nWk m) 2 (0 : Int32)) 34 7 (iN (nWk m + 1)) = S1 at h1 f1 c1 hn1
          have z0 : (129 : Int32) + (3 : Int32) * iN (nWk m) + (0 : Int32) = iN (129 + 3 * nWk m) := by show iN 129 + iN 3 * iN _ + iN 0 = _; rw [iN_m, iN_a, iN_a, Nat.add_zero]
          have z1 : (129 : Int32) + (3 : Int32) * iN (nWk m) + (1 : Int32) = iN (130 + 3 * nWk m) := by show iN 129 + iN 3 * iN _ + iN 1 = _; rw [iN_m, iN_a, iN_a]; congr 1; omega
          have z2 : (129 : Int32) + (3 : Int32) * iN (nWk m) + (2 : Int32) = iN (131 + 3 * nWk m) := by show iN 129 + iN 3 * iN _ + iN 2 = _; rw [iN_m, iN_a, iN_a]; congr 1; omega
          have h2 : f_M_walker S1 (iN u) (iN d) = some (iN (nWk m), uI (uI (uI (uI S1 192 (129 + 3 * nWk m) (iN u)) 192 (130 + 3 * nWk m) (iN d)) 192 (131 + 3 * nWk m) (0 : Int32)) 192 3 (iN (nWk m + 1))) := by
            unfold f_M_walker
            rw [pM_isCourse hn1, q, bd_s, if_bI, bt_t, (isWidth_y q2).2, bd_s, if_neg (by decide), pM_broadOf hn1 hu, bd_s, if_pos ((iN_le (by omega) (by omega)).mpr q3), hn1.w, if_neg (fun z => by have := (iN_eq (b := 4) (by omega) (by omega)).mp z; omega), z0, z1, z2, ck_of (iN_b (by omega) (by decide)), ck_of (iN_b (by omega) (by decide)), ck_of (iN_b (by omega) (by decide)), iN_c (by omega), iN_c (by omega), iN_c (by omega), gI_un (by omega), gI_un (by omega), gI_un (by omega), hn1.w, iN_1]
          refine Q2.town h ht h1 c1 f1 h2 ⟨c1.1, fun p hp => ?_⟩ ((((Fr.rfl'.uI (Or.inl rfl)).uI (Or.inl rfl)).uI (Or.inl rfl)).uI (Or.inl rfl)) (fun i hi => em i (by omega) (by omega))
          rw [gI_u, gI_u, gI_u, gI_u]
          show _ = up1 (up1 (up1 (up1 m (129 + 3 * nWk m) (iN u)) (130 + 3 * nWk m) (iN d)) (131 + 3 * nWk m) (0 : Int32)) 3 (iN (nWk m + 1)) p
          unfold up1
          have := hn1.at hp
          grind
        · refine Q2.same (r := -2) h ?_ ?_
          · unfold f_X_walker
            rw [(isWidth_y q2).1, bd_s, if_neg (by decide), pT_hasCourseFor hc _ (by omega), q, iN_c (by omega), decide_eq_true q3, bd_s, if_bI, Bool.true_and, bt_t, if_neg (lt_n (a := (nWk m : Int)) (by rw [hc.w]; exact iN_i (by omega)) tl4 (by omega))]
          · show f_M_walker S _ _ = _
            unfold f_M_walker
            rw [pM_isCourse hn, q, bd_s, if_bI, bt_t, (isWidth_y q2).2, bd_s, if_neg (by decide), pM_broadOf hn hu, bd_s, if_pos ((iN_le (by omega) (by omega)).mpr q3), if_pos (by rw [hn.w, show nWk m = 4 by omega]; rfl)]
      · refine Q2.same (r := -1) h ?_ ?_
        · unfold f_X_walker
          rw [(isWidth_y q2).1, bd_s, if_neg (by decide), pT_hasCourseFor hc _ (by omega), q, iN_c (by omega), decide_eq_false q3, bd_s, if_bI, Bool.true_and, bt_f]
        · show f_M_walker S _ _ = _
          unfold f_M_walker
          rw [pM_isCourse hn, q, bd_s, if_bI, bt_t, (isWidth_y q2).2, bd_s, if_neg (by decide), pM_broadOf hn hu, bd_s, if_neg (fun z => q3 ((iN_le (by omega) (by omega)).mp z))]
    · have q := Bool.eq_false_iff.mpr q
      refine Q2.same (r := -1) h ?_ ?_
      · unfold f_X_walker
        rw [(isWidth_y q2).1, bd_s, if_neg (by decide), pT_hasCourseFor hc _ (by omega), q, bd_s, if_bI, Bool.false_and, bt_f]
      · show f_M_walker S _ _ = _
        unfold f_M_walker
        rw [pM_isCourse hn, q, bd_s, if_bI, bt_f]
  · refine Q2.same (r := -1) h ?_ ?_
    · unfold f_X_walker
      rw [(isWidth_n q2).1, bd_s, if_pos rfl]
    · show f_M_walker S _ _ = _
      unfold f_M_walker
      rw [pM_isCourse hn, bd_s, if_bI, (isWidth_n q2).2, bd_s, if_pos rfl]
      cases cIx m x <;> rfl
end
