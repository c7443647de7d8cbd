/-! Walkers go; questions of crossings, streets and turns. -/
section
variable {k : cx} {S S1 S2 T : hs} {m m' : Nat → Int32} {l : Lz}
theorem VM.pt (v : VM m) {a u : Nat} (ha : a < nWk m) (hu : u < 2 * nSt m) (e : ∀ i, i ≠ 129 + 3 * a → i ≠ 131 + 3 * a → m' i = m i) (e0 : m' (129 + 3 * a) = iN u) : ∀ i, i < nWk m → ∃ c d : Nat, m' (129 + 3 * i) = iN c ∧ c < 2 * nSt m ∧ m' (130 + 3 * i) = iN d ∧ d ≤ 9 := by
  intro i hi
  obtain ⟨c, d, p1, p2, p3, p4⟩ := v.k_ i hi
  rw [e (130 + 3 * i) (by omega) (by omega)]
  by_cases z : i = a
  · subst z; exact ⟨u, d, e0, hu, p3, p4⟩
  · rw [e _ (by omega) (by omega)]; exact ⟨c, d, p1, p2, p3, p4⟩
theorem Tc.pt (h : Tc S m) {a u : Nat} (ha : a < nWk m) (hu : u < 2 * nSt m) (e : ∀ i, i ≠ 129 + 3 * a → i ≠ 131 + 3 * a → m' i = m i) (e0 : m' (129 + 3 * a) = iN u) (g : ∀ b i, 34 ≤ b → b < 74 → ¬ (b = 70 + a ∧ (i = 0 ∨ i = 2)) → gI T b i = gI S b i) (g0 : gI T (70 + a) 0 = m' (129 + 3 * a)) (g2 : gI T (70 + a) 2 = m' (131 + 3 * a)) : Tc T m' := by
  have hw := h.1.w.2
  refine h.wk (n := nWk m) hw (fun i q1 q2 => e i (by omega) (by omega)) (by rw [e _ (by omega) (by omega)]; exact h.1.w.1) (h.1.pt ha hu e e0) (fun b i q1 q2 q3 => g b i q1 (by omega) (by omega)) (by rw [g _ _ (by omega) (by omega) (by omega), e _ (by omega) (by omega), h.w, h.1.w.1]) (fun i hi => ?_)
  have t := h.2.2.2.2.2.2.2 i hi
  simp only [] at t
  rw [g (70 + i) 1 (by omega) (by omega) (by omega), e (130 + 3 * i) (by omega) (by omega)]
  by_cases z : i = a
  · subst z; exact ⟨g0, t.2.1, g2⟩
  · rw [g (70 + i) 0 (by omega) (by omega) (by omega), g (70 + i) 2 (by omega) (by omega) (by omega), e _ (by omega) (by omega), e _ (by omega) (by omega)]; exact t
theorem q_put (h : Inv k S) (x y : Int32) : Q2 k S (f_X_put S x y) (fun T => f_M_put T x y) := by
  obtain ⟨m, l, ht⟩ := h.1
  have hc := ht.1
  have hn := ht.2.1
  have hw := hc.1.w.2
  have hs := hc.1.s.2
  by_cases q : 0 ≤ x.toInt ∧ x.toInt < (nWk m : Int)
  · obtain ⟨a, rfl, ha, ea⟩ := iN_of q.1
    have ha' : a < nWk m := by omega
    have hd := (hc.1.k ha').2.2
    by_cases q1 : cIx m y = true
    · obtain ⟨u, rfl, cu, hu, -⟩ := cIx_e hc.1 q1
      have e := (hc.1.e (half_lt hu)).2.2.2.1.2
      by_cases q2 : qD m a ≤ qW m (u / 2)
      · have h1 : f_X_put S (iN a) (iN u) = some (1, uI S (70 + a) 0 (iN u)) := by
          unfold f_X_put
          rw [hw_y hc ha', bd_s, if_neg (by decide), ck_of (iN_b (by omega) (by decide)), iN_c (by omega), (hc.k ha').2.1, pT_hasCourseFor hc _ hd, q1, iN_c (by omega), decide_eq_true q2, bd_s, if_bI, Bool.true_and, bt_t]
        have f1 : Fr (fun a => (34 ≤ a ∧ a < 74) ∨ Scr a) S (uI S (70 + a) 0 (iN u)) := Fr.rfl'.uI (Or.inl (by omega))
        have hn1 := hn.fr f1 (fun z => z.elim (by omega) (nScr (by omega)))
        have c1 : Tc (uI S (70 + a) 0 (iN u)) (up1 m (129 + 3 * a) (iN u)) := hc.pt ha' hu (fun i q1 q2 => up1_n q1) up1_s (fun b i q1 q2 q3 => by rw [gI_u, if_neg (by omega)]) (by rw [gI_us, up1_s]) (by rw [gI_un (by omega), up1_n (by omega)]; exact (hc.k ha').2.2)
        have z0 : (129 : Int32) + (3 : Int32) * iN a + (0 : Int32) = iN (129 + 3 * a) := by show iN 129 + iN 3 * iN _ + iN 0 = _; rw [iN_m, iN_a, iN_a, Nat.add_zero]
        have h2 : f_M_put (uI S (70 + a) 0 (iN u)) (iN a) (iN u) = some (1, uI (uI S (70 + a) 0 (iN u)) 192 (129 + 3 * a) (iN u)) := by
          unfold f_M_put
          rw [i3_y hn1 ha', bd_s, if_neg (by decide), pM_isCourse hn1, q1, bd_s, if_bI, bt_t, pM_broadOf hn1 hu, bd_s, wkI1 hn1 ha', bd_s, if_pos ((iN_le (by omega) (by omega)).mpr q2), z0, ck_of (iN_b (by omega) (by decide)), iN_c (by omega)]
        exact Q2.town h ht h1 c1 f1 h2 (hn1.up c1.1) (Fr.rfl'.uI (Or.inl rfl)) (fun i hi => up1_n (by omega))
      · refine Q2.same (r := -1) h ?_ ?_
        · unfold f_X_put
          rw [hw_y hc ha', bd_s, if_neg (by decide), ck_of (iN_b (by omega) (by decide)), iN_c (by omega), (hc.k ha').2.1, pT_hasCourseFor hc _ hd, q1, iN_c (by omega), decide_eq_false q2, bd_s, if_bI, Bool.true_and, bt_f]
        · show f_M_put S _ _ = _
          unfold f_M_put
          rw [i3_y hn ha', bd_s, if_neg (by decide), pM_isCourse hn, q1, bd_s, if_bI, bt_t, pM_broadOf hn hu, bd_s, wkI1 hn ha', bd_s, if_neg (fun z => q2 ((iN_le (by omega) (by omega)).mp z))]
    · have q1 := Bool.eq_false_iff.mpr q1
      refine Q2.same (r := -1) h ?_ ?_
      · unfold f_X_put
        rw [hw_y hc ha', bd_s, if_neg (by decide), ck_of (iN_b (by omega) (by decide)), iN_c (by omega), (hc.k ha').2.1, pT_hasCourseFor hc _ hd, q1, bd_s, if_bI, Bool.false_and, bt_f]
      · show f_M_put S _ _ = _
        unfold f_M_put
        rw [i3_y hn ha', bd_s, if_neg (by decide), pM_isCourse hn, q1, bd_s, if_bI, bt_f]
  · refine Q2.same (r := -1) h ?_ ?_
    · unfold f_X_put
      rw [pT_hasWalker hc, decide_eq_false q, bd_s, if_bI, bt_f]
    · show f_M_put S _ _ = _
      unfold f_M_put
      rw [is3 hn, decide_eq_false q, bd_s, if_bI, bt_f]
theorem scr80 : ∀ a, (fun q => q = 80) a → Scr a := fun a h => Or.inl h
theorem scr200 : ∀ a, (fun q => q = 200) a → Scr a := fun a (h : a = 200) => Or.inr (Or.inr (by omega))
theorem m1ne {n : Nat} (h : n ≤ 5) : ¬ (if n = 0 then (-1 : Int32) else iN n) = -1 ↔ ¬ n = 0 := by
  have : n = 0 ∨ n = 1 ∨ n = 2 ∨ n = 3 ∨ n = 4 ∨ n = 5 := by omega
  rcases this with rfl | rfl | rfl | rfl | rfl | rfl <;> decide
theorem q_turn (h : Inv k S) (x y : Int32) : Q2 k S (f_X_turn S x y) (fun T => f_M_turn T x y) := by
  obtain ⟨m, l, ht⟩ := h.1
  have hc := ht.1
  have hn := ht.2.1
  have hl := tkd_l (m := m) x y
  by_cases q1 : 0 ≤ x.toInt ∧ x.toInt ≤ 39
  · by_cases q2 : 0 ≤ y.toInt ∧ y.toInt ≤ 39
    · refine Q2.same (r := if tkd m x y = 0 then -3 else iN (tkd m x y)) h ?_ ?_
      · unfold f_X_turn
        rw [(isCN_y q1).1, bd_s, if_neg (by decide), (isCN_y q2).1, bd_s, if_neg (by decide), pT_turnNow hc, bd_s]
        by_cases z : tkd m x y = 0
        · rw [if_pos z, if_pos z, if_pos rfl]
        · rw [if_neg ((m1ne hl).mpr z), if_neg z, if_neg z]
      · show f_M_turn S _ _ = _
        unfold f_M_turn
        rw [(isCN_y q1).2, bd_s, if_neg (by decide), (isCN_y q2).2, bd_s, if_neg (by decide), pM_kindOf hn, bd_s, if_z (by omega)]
        split <;> rfl
    · refine Q2.same (r := -1) h ?_ ?_
      · unfold f_X_turn
        rw [(isCN_y q1).1, bd_s, if_neg (by decide), (isCN_n q2).1, bd_s, if_pos rfl]
      · show f_M_turn S _ _ = _
        unfold f_M_turn
        rw [(isCN_y q1).2, bd_s, if_neg (by decide), (isCN_n q2).2, bd_s, if_pos rfl]
  · refine Q2.same (r := -1) h ?_ ?_
    · unfold f_X_turn
      rw [(isCN_n q1).1, bd_s, if_pos rfl]
    · show f_M_turn S _ _ = _
      unfold f_M_turn
      rw [(isCN_n q1).2, bd_s, if_pos rfl]
theorem tkd_c {x y : Int32} (v : VM m) (h : ¬ tkd m x y = 0) : ∃ u w : Nat, x = iN u ∧ y = iN w ∧ cIs m u = true ∧ cIs m w = true ∧ u < 2 * nSt m ∧ w < 2 * nSt m ∧ tkd m x y = ckd m u w := by
  have hs := v.s.2
  unfold tkd at h
  by_cases q : cIx m x = true ∧ cIx m y = true
  · obtain ⟨u, rfl, cu, hu, -⟩ := cIx_e v q.1
    obtain ⟨w, rfl, cw, hw, -⟩ := cIx_e v q.2
    exact ⟨u, w, rfl, rfl, cu, cw, hu, hw, tkd_n (by omega) (by omega)⟩
  · rw [if_neg q] at h; exact absurd rfl h
/-- may it be gone, once there is such a turn -/
theorem may2 (hc : Tc S m) (hl : LwC (fun a i => gI S a i) l) {u v w : Nat} (cu : cIs m u = true) (cv : cIs m v = true) (hw : w ≤ 9) : ∃ U, f_T_mayGo S (iN u) (iN v) (iN w) = some (bI (mgC m l u v w), U) ∧ Fr (fun q => q = 80) S U := by
  obtain ⟨U, h1, h2⟩ := pT_mayGo hc hl (cIs_lt cu) (cIs_lt cv) hw
  refine ⟨U, ?_, h2⟩
  rw [h1]; unfold mgC; rw [cu, cv]; rfl
theorem q_may (h : Inv k S) (x y w : Int32) : Q2 k S (f_X_may S x y w) (fun T => f_M_may T x y w) := by
  obtain ⟨m, l, ht⟩ := h.1
  have hc := ht.1
  have hn := ht.2.1
  have hs := hc.1.s.2
  have hl := tkd_l (m := m) x y
  by_cases q1 : 0 ≤ x.toInt ∧ x.toInt ≤ 39
  · by_cases q2 : 0 ≤ y.toInt ∧ y.toInt ≤ 39
    · by_cases q3 : 0 ≤ w.toInt ∧ w.toInt ≤ 9
      · by_cases z : tkd m x y = 0
        · refine Q2.same (r := -3) h ?_ ?_
          · unfold f_X_may
            rw [(isCN_y q1).1, bd_s, if_neg (by decide), (isCN_y q2).1, bd_s, if_neg (by decide), (isWidth_y q3).1, bd_s, if_neg (by decide), pT_turnNow hc, bd_s, if_pos z, if_pos rfl]
          · show f_M_may S _ _ _ = _
            unfold f_M_may
            rw [(isCN_y q1).2, bd_s, if_neg (by decide), (isCN_y q2).2, bd_s, if_neg (by decide), (isWidth_y q3).2, bd_s, if_neg (by decide), pM_kindOf hn, bd_s, if_z (by omega), if_pos z]
        · obtain ⟨u, v, rfl, rfl, cu, cv, hu, hv, e⟩ := tkd_c hc.1 z
          obtain ⟨w, rfl, hw, ew⟩ := iN_of q3.1
          obtain ⟨S1, h1, f1⟩ := may2 (w := w) hc ht.2.2.1 cu cv (by omega)
          have f1' := f1.mono scr80
          have ht1 := ht.fr f1'
          obtain ⟨S2, h2, f2⟩ := pM_mayGo (u := u) (v := v) (w := w) ht1.2.1 ht1.2.2.2 (((f1' 191 (nScr (by omega))).1 3).trans h.2.2.2.2.2.2.2.2) (by omega) (by omega) (by omega)
          refine Q2.fr (r := bI (mgC m l u v w)) h ?_ ?_ f1' (f2.mono scr200)
          · unfold f_X_may
            rw [(isCN_y q1).1, bd_s, if_neg (by decide), (isCN_y q2).1, bd_s, if_neg (by decide), (isWidth_y q3).1, bd_s, if_neg (by decide), pT_turnNow hc, bd_s, if_neg ((m1ne hl).mpr z), h1, bd_s, if_bI]
            cases mgC m l u v w <;> rfl
          · show f_M_may S1 _ _ _ = _
            unfold f_M_may
            rw [(isCN_y q1).2, bd_s, if_neg (by decide), (isCN_y q2).2, bd_s, if_neg (by decide), (isWidth_y q3).2, bd_s, if_neg (by decide), pM_kindOf ht1.2.1, bd_s, if_z (by omega), if_neg z, h2, bd_s, if_bI]
            cases mgC m l u v w <;> rfl
      · refine Q2.same (r := -1) h ?_ ?_
        · unfold f_X_may
          rw [(isCN_y q1).1, bd_s, if_neg (by decide), (isCN_y q2).1, bd_s, if_neg (by decide), (isWidth_n q3).1, bd_s, if_pos rfl]
        · show f_M_may S _ _ _ = _
          unfold f_M_may
          rw [(isCN_y q1).2, bd_s, if_neg (by decide), (isCN_y q2).2, bd_s, if_neg (by decide), (isWidth_n q3).2, bd_s, if_pos rfl]
    · refine Q2.same (r := -1) h ?_ ?_
      · unfold f_X_may
        rw [(isCN_y q1).1, bd_s, if_neg (by decide), (isCN_n q2).1, bd_s, if_pos rfl]
      · show f_M_may S _ _ _ = _
        unfold f_M_may
        rw [(isCN_y q1).2, bd_s, if_neg (by decide), (isCN_n q2).2, bd_s, if_pos rfl]
  · refine Q2.same (r := -1) h ?_ ?_
    · unfold f_X_may
      rw [(isCN_n q1).1, bd_s, if_pos rfl]
    · show f_M_may S _ _ _ = _
      unfold f_M_may
      rw [(isCN_n q1).2, bd_s, if_pos rfl]
theorem q_go (h : Inv k S) (x y : Int32) : Q2 k S (f_X_go S x y) (fun T => f_M_go T x y) := by
  obtain ⟨m, l, ht⟩ := h.1
  have hc := ht.1
  have hn := ht.2.1
  have hw := hc.1.w.2
  have hs := hc.1.s.2
  by_cases q : 0 ≤ x.toInt ∧ x.toInt < (nWk m : Int)
  · obtain ⟨a, rfl, ha, ea⟩ := iN_of q.1
    have ha' : a < nWk m := by omega
    have hd := (hc.1.k ha').2.2
    by_cases q1 : 0 ≤ y.toInt ∧ y.toInt ≤ 39
    · have hl := tkd_l (m := m) (iN (qC m a)) y
      have x0 : f_X_go S (iN a) y = bd (f_T_turnNow S (iN (qC m a)) y) fun r10 S11 => (if r10 = (-1 : Int32) then some ((-3 : Int32), S11) else bd (f_T_mayGo S11 (gI S11 (70 + a) 0) y (gI S11 (70 + a) 1)) fun r14 S15 => (if r14 = 0 then some ((-4 : Int32), S15) else bd (f_T_longOf (uI S15 (70 + a) 0 y) y) fun r18 S19 => some ((gI (uI S19 (70 + a) 2 ((gI (uI S15 (70 + a) 0 y) (70 + a) 2) + r18)) (70 + a) 2), (uI S19 (70 + a) 2 ((gI (uI S15 (70 + a) 0 y) (70 + a) 2) + r18))))) := by
        unfold f_X_go
        rw [hw_y hc ha', bd_s, if_neg (by decide), (isCN_y q1).1, bd_s, if_neg (by decide), ck_of (iN_b (by omega) (by decide)), iN_c (by omega), (hc.k ha').1]
      by_cases z : tkd m (iN (qC m a)) y = 0
      · refine Q2.same (r := -3) h ?_ ?_
        · rw [x0, pT_turnNow hc, bd_s, if_pos z, if_pos rfl]
        · show f_M_go S _ _ = _
          unfold f_M_go
          rw [i3_y hn ha', bd_s, if_neg (by decide), (isCN_y q1).2, bd_s, if_neg (by decide), wkI0 hn ha', bd_s, pM_kindOf hn, bd_s, if_z (by omega), if_pos z]
      · obtain ⟨u, v, e1, rfl, cu, cv, hu, hv, e⟩ := tkd_c hc.1 z
        obtain ⟨S1, h1, f1⟩ := may2 (w := qD m a) hc ht.2.2.1 cu cv hd
        have f1' := f1.mono scr80
        have ht1 := ht.fr f1'
        have hi : gI S 191 3 = -1 := h.2.2.2.2.2.2.2.2
        cases hg : mgC m l u v (qD m a) with
        | false =>
          obtain ⟨S2, h2, f2⟩ := pM_mayGo (u := u) (v := v) (w := qD m a) ht1.2.1 ht1.2.2.2 (((f1' 191 (nScr (by omega))).1 3).trans hi) (by omega) (by omega) hd
          refine Q2.fr (r := -4) h ?_ ?_ f1' (f2.mono scr200)
          · rw [x0, pT_turnNow hc, bd_s, if_neg ((m1ne hl).mpr z), (hc.k ha').1, (hc.k ha').2.1, e1, h1, hg, bd_s, if_bI, bt_f]
          · show f_M_go S1 _ _ = _
            unfold f_M_go
            rw [i3_y ht1.2.1 ha', bd_s, if_neg (by decide), (isCN_y q1).2, bd_s, if_neg (by decide), wkI0 ht1.2.1 ha', bd_s, pM_kindOf ht1.2.1, bd_s, if_z (by omega), if_neg z, wkI1 ht1.2.1 ha', bd_s, e1, h2, hg, bd_s, if_bI, bt_f]
        | true =>
          have n70 : ∀ i, gI S1 (70 + a) i = gI S (70 + a) i := fun i => (f1' (70 + a) (nScr (by omega))).1 i
          let M := m (131 + 3 * a) + iN (qL m (v / 2))
          have c0 : Tc (uI S1 (70 + a) 0 (iN v)) (up1 m (129 + 3 * a) (iN v)) := ht1.1.pt ha' hv (fun i q1 q2 => up1_n q1) up1_s (fun b i q1 q2 q3 => by rw [gI_u, if_neg (by omega)]) (by rw [gI_us, up1_s]) (by rw [gI_un (by omega), up1_n (by omega)]; exact (ht1.1.k ha').2.2)
          have eqL : ∀ j, j < nSt m → qL (up1 m (129 + 3 * a) (iN v)) j = qL m j := fun j hj => (qL_cg (m' := up1 m (129 + 3 * a) (iN v)) hc.1 hj (fun i q1 q2 => up1_n (by omega)) (up1_n (by omega)) (up1_n (by omega))).2.2
          have ens : nSt (up1 m (129 + 3 * a) (iN v)) = nSt m := by unfold nSt; rw [up1_n (by omega)]
          have c1 : Tc (uI (uI S1 (70 + a) 0 (iN v)) (70 + a) 2 M) (up1 (up1 m (129 + 3 * a) (iN v)) (131 + 3 * a) M) := hc.pt ha' hv (fun i q1 q2 => by rw [up1_n q2, up1_n q1]) (by rw [up1_n (by omega), up1_s]) (fun b i q1 q2 q3 => by rw [gI_u, gI_u, if_neg (by omega), if_neg (by omega)]; exact (f1' b (nScr (by omega))).1 i) (by rw [gI_un (by omega), gI_us, up1_n (by omega), up1_s]) (by rw [gI_us, up1_s])
          have h1' : f_X_go S (iN a) (iN v) = some (M, uI (uI S1 (70 + a) 0 (iN v)) (70 + a) 2 M) := by
            rw [x0, pT_turnNow hc, bd_s, if_neg ((m1ne hl).mpr z), (hc.k ha').1, (hc.k ha').2.1, e1, h1, hg, bd_s, if_bI, bt_t, pT_longOf c0 (by rw [ens]; exact hv), bd_s, gI_us, gI_un (by omega), n70, (hc.k ha').2.2, eqL _ (half_lt hv)]
          have f1'' : Fr (fun a => (34 ≤ a ∧ a < 74) ∨ Scr a) S (uI (uI S1 (70 + a) 0 (iN v)) (70 + a) 2 M) := ((f1'.mono (fun _ q => Or.inr q)).uI (Or.inl (by omega))).uI (Or.inl (by omega))
          have hn1 := hn.fr f1'' (fun z => z.elim (by omega) (nScr (by omega)))
          have hi1 : gI (uI (uI S1 (70 + a) 0 (iN v)) (70 + a) 2 M) 191 3 = -1 := ((f1'' 191 (fun z => z.elim (by omega) (nScr (by omega)))).1 3).trans hi
          generalize uI (uI S1 (70 + a) 0 (iN v)) (70 + a) 2 M = T1 at h1' c1 f1'' hn1 hi1
          obtain ⟨S2, h2, f2⟩ := pM_mayGo (u := u) (v := v) (w := qD m a) hn1 ht.2.2.2 hi1 (by omega) (by omega) hd
          have hn2 := hn1.fr f2 (by decide)
          have z0 : (129 : Int32) + (3 : Int32) * iN a + (0 : Int32) = iN (129 + 3 * a) := by show iN 129 + iN 3 * iN _ + iN 0 = _; rw [iN_m, iN_a, iN_a, Nat.add_zero]
          have z2 : (129 : Int32) + (3 : Int32) * iN a + (2 : Int32) = iN (131 + 3 * a) := by show iN 129 + iN 3 * iN _ + iN 2 = _; rw [iN_m, iN_a, iN_a]; congr 1; omega
          have n0 : Tn (uI S2 192 (129 + 3 * a) (iN v)) (up1 m (129 + 3 * a) (iN v)) := hn2.up c0.1
          have n2 : Tn (uI (uI S2 192 (129 + 3 * a) (iN v)) 192 (131 + 3 * a) M) (up1 (up1 m (129 + 3 * a) (iN v)) (131 + 3 * a) M) := n0.up c1.1
          have h2' : f_M_go T1 (iN a) (iN v) = some (M, uI (uI S2 192 (129 + 3 * a) (iN v)) 192 (131 + 3 * a) M) := by
            unfold f_M_go
            have ew : f_M_walkerIs (uI (uI S2 192 (129 + 3 * a) (iN v)) 192 (131 + 3 * a) M) (iN a) (2 : Int32) = some (M, uI (uI S2 192 (129 + 3 * a) (iN v)) 192 (131 + 3 * a) M) := by
              have := wkI (i := a) (f := 2) n2 (by omega) (by omega)
              rw [show 129 + 3 * a + 2 = 131 + 3 * a by omega, up1_s] at this
              exact this
            rw [i3_y hn1 ha', bd_s, if_neg (by decide), (isCN_y q1).2, bd_s, if_neg (by decide), wkI0 hn1 ha', bd_s, pM_kindOf hn1, bd_s, if_z (by omega), if_neg z, wkI1 hn1 ha', bd_s, e1, h2, hg, bd_s, if_bI, bt_t, z0, z2, ck_of (iN_b (by omega) (by decide)), ck_of (iN_b (by omega) (by decide)), iN_c (by omega), iN_c (by omega), iN_d2 (by omega), pM_longOf n0 (by rw [ens]; omega), bd_s, gI_un (by omega), hn2.at (by omega), eqL _ (half_lt hv), ew, bd_s]
          have f2' : Fr (fun a => a = 192 ∨ Scr a) T1 S2 := (f2.mono scr200).mono (fun _ q => Or.inr q)
          exact Q2.town h ht h1' c1 f1'' h2' n2 ((f2'.uI (Or.inl rfl)).uI (Or.inl rfl)) (fun i hi => by rw [up1_n (by omega), up1_n (by omega)])
    · refine Q2.same (r := -1) h ?_ ?_
      · unfold f_X_go
        rw [hw_y hc ha', bd_s, if_neg (by decide), (isCN_n q1).1, bd_s, if_pos rfl]
      · show f_M_go S _ _ = _
        unfold f_M_go
        rw [i3_y hn ha', bd_s, if_neg (by decide), (isCN_n q1).2, bd_s, if_pos rfl]
  · refine Q2.same (r := -1) h ?_ ?_
    · unfold f_X_go
      rw [pT_hasWalker hc, decide_eq_false q, bd_s, if_bI, bt_f]
    · show f_M_go S _ _ = _
      unfold f_M_go
      rw [is3 hn, decide_eq_false q, bd_s, if_bI, bt_f]
end
