/-! The town's calls. -/
section
variable {k : cx} {S S1 S2 T : hs} {m m' : Nat → Int32} {l : Lz}
theorem Q2.town {oX : Option (Int32 × hs)} {oM : hs → Option (Int32 × hs)} {r : Int32} (h : Inv k S) (ht : IvT S m l) (h1 : oX = some (r, S1)) (c1 : Tc S1 m') (f1 : Fr (fun a => (34 ≤ a ∧ a < 74) ∨ Scr a) S S1) (h2 : oM S1 = some (r, S2)) (n2 : Tn S2 m') (f2 : Fr (fun a => a = 192 ∨ Scr a) S1 S2) (e : ∀ i, i = 4 ∨ 141 ≤ i ∧ i < 358 → m' i = m i) : Q2 k S oX oM := by
  have e1 : ∀ a, ¬ (34 ≤ a ∧ a < 74) → ¬ Scr a → (∀ i, gI S1 a i = gI S a i) ∧ ∀ i, gJ S1 a i = gJ S a i := fun a q1 q2 => f1 a (fun z => z.elim q1 q2)
  have e2 : ∀ a, ¬ a = 192 → ¬ Scr a → (∀ i, gI S2 a i = gI S1 a i) ∧ ∀ i, gJ S2 a i = gJ S1 a i := fun a q1 q2 => f2 a (fun z => z.elim q1 q2)
  have e3 : ∀ a i, (a < 34 ∨ 74 ≤ a) → a ≠ 192 → ¬ Scr a → gI S2 a i = gI S a i := fun a i q1 q2 q3 => ((e2 a q2 q3).1 i).trans ((e1 a (by omega) q3).1 i)
  obtain ⟨-, hk, hr, hp, hh, hg, ha, hs, hi⟩ := h
  refine ⟨r, S1, S2, h1, h2, fun j => (e1 32 (by omega) (nScr (by omega))).1 j, ⟨m', l, c1.fr f2 (fun a q1 q2 z => ?_), n2, ?_, ht.2.2.2.cg e⟩, hk.cg (fun a i q => e3 a i (by omega) (by omega) (nScr (by omega))), hr.cg (fun a i q => e3 a i (by omega) (by omega) (nScr (by omega))), hp.cg (fun a i q => e3 a i (by omega) (by omega) (nScr (by omega))), hh.cg (fun a i q => e3 a i (by omega) (by omega) (nScr (by omega))) (fun a i q1 q2 => ((e2 a (by omega) (nScr (by omega))).2 i).trans ((e1 a (by omega) (nScr (by omega))).2 i)), hg.cg (fun a i q => e3 a i (by omega) (by omega) (nScr (by omega))), ha.cg (fun a i q => e3 a i (by omega) (by omega) (nScr (by omega))), hs.cg (fun a i q1 q2 => e3 a i (by omega) (by omega) (nScr (by omega))), (e3 191 3 (by omega) (by omega) (nScr (by omega))).trans hi⟩
  · rcases z with z | z
    · omega
    · exact nScr (by omega) z
  · exact ht.2.2.1.cg (e3 _ _ (by omega) (by omega) (nScr (by omega))) (fun i _ => e3 _ _ (by omega) (by omega) (nScr (by omega))) (fun i _ => e3 _ _ (by omega) (by omega) (nScr (by omega))) (fun i _ => e3 _ _ (by omega) (by omega) (nScr (by omega))) (fun i _ => e3 _ _ (by omega) (by omega) (nScr (by omega))) (fun i _ => e3 _ _ (by omega) (by omega) (nScr (by omega)))
/-- one cell of a street -/
theorem VM.st (v : VM m) {j : Nat} (hj : j < nSt m) (e : ∀ i, i ≠ 31 + 5 * j → i ≠ 33 + 5 * j → m' i = m i) {a b : Nat} (h1 : m' (31 + 5 * j) = iN a) (a1 : 1 ≤ a) (a9 : a ≤ 9) (h2 : m' (33 + 5 * j) = iN b) (b1 : b ≤ 1) : VM m' ∧ nCr m' = nCr m ∧ nSt m' = nSt m ∧ nWk m' = nWk m ∧ nDy m' = nDy m := by
  have hs := v.s.2
  have hc := v.c.2
  have hw := v.w.2
  refine VM.of (nc := nCr m) (ns := nSt m) (nw := nWk m) (nd := nDy m) (by rw [e 1 (by omega) (by omega)]; exact v.c.1) hc (by rw [e 2 (by omega) (by omega)]; exact v.s.1) hs (by rw [e 3 (by omega) (by omega)]; exact v.w.1) hw (by rw [e 0 (by omega) (by omega)]; exact v.d.1) v.d.2 (fun i hi => ?_) (fun i j hi hj => ?_) (fun i hi => ?_) (fun i hi => ?_)
  · rw [e _ (by omega) (by omega), e _ (by omega) (by omega)]; exact v.x_ i hi
  · rw [e _ (by omega) (by omega), e _ (by omega) (by omega), e _ (by omega) (by omega), e _ (by omega) (by omega)]; exact v.u_ i j hi hj
  · by_cases q : i = j
    · subst q
      obtain ⟨a', b', w', o', h', p1, p2, p3, p4, p5, p6, p7, p8, p9, p10, p11, p12⟩ := v.e_ i hi
      exact ⟨a', b', a, o', b, by rw [e _ (by omega) (by omega)]; exact p1, p2, by rw [e _ (by omega) (by omega)]; exact p3, p4, p5, h1, a1, a9, by rw [e _ (by omega) (by omega)]; exact p9, p10, h2, b1⟩
    · rw [e _ (by omega) (by omega), e _ (by omega) (by omega), e _ (by omega) (by omega), e _ (by omega) (by omega), e _ (by omega) (by omega)]; exact v.e_ i hi
  · rw [e _ (by omega) (by omega), e _ (by omega) (by omega)]; exact v.k_ i hi
theorem qL_cg (v : VM m) {j : Nat} (hj : j < nSt m) (e1 : ∀ i, 5 ≤ i → i < 29 → m' i = m i) (e2 : m' (29 + 5 * j) = m (29 + 5 * j)) (e3 : m' (30 + 5 * j) = m (30 + 5 * j)) : qA m' j = qA m j ∧ qB m' j = qB m j ∧ qL m' j = qL m j := by
  have a : qA m' j = qA m j := by unfold qA; rw [e2]
  have b : qB m' j = qB m j := by unfold qB; rw [e3]
  have h := v.e hj
  have hc := v.c.2
  refine ⟨a, b, ?_⟩
  unfold qL qX qY
  rw [a, b, e1 _ (by omega) (by omega), e1 _ (by omega) (by omega), e1 _ (by omega) (by omega), e1 _ (by omega) (by omega)]
theorem Tc.st (h : Tc S m) {j : Nat} (hj : j < nSt m) (e : ∀ i, i ≠ 31 + 5 * j → i ≠ 33 + 5 * j → m' i = m i) {a b : Nat} (h1 : m' (31 + 5 * j) = iN a) (a1 : 1 ≤ a) (a9 : a ≤ 9) (h2 : m' (33 + 5 * j) = iN b) (b1 : b ≤ 1) (g : ∀ a i, 34 ≤ a → a < 74 → ¬ (a = 49 + j ∧ (i = 2 ∨ i = 5)) → gI T a i = gI S a i) (g2 : gI T (49 + j) 2 = m' (31 + 5 * j)) (g5 : gI T (49 + j) 5 = m' (33 + 5 * j)) : Tc T m' := by
  obtain ⟨v', c1, c2, c3, c4⟩ := h.1.st hj e h1 a1 a9 h2 b1
  refine ⟨v', ?_⟩
  have v := h.1
  have hs := v.s.2
  have hc := v.c.2
  have hw := v.w.2
  obtain ⟨t1, t2, t3, t4, t5, t6, t7⟩ := h.2
  unfold TB
  rw [c1, c2, c3]
  refine ⟨?_, ?_, ?_, ?_, fun i hi => ?_, fun i hi => ?_, fun i hi => ?_⟩
  · show gI T 34 5 = _; rw [g _ _ (by omega) (by omega) (by omega), e _ (by omega) (by omega)]; exact t1
  · show gI T 34 6 = _; rw [g _ _ (by omega) (by omega) (by omega), e _ (by omega) (by omega)]; exact t2
  · show gI T 34 7 = _; rw [g _ _ (by omega) (by omega) (by omega), e _ (by omega) (by omega)]; exact t3
  · show gI T 34 8 = _; rw [g _ _ (by omega) (by omega) (by omega), e _ (by omega) (by omega)]; exact t4
  · show gI T (36 + i) 0 = _ ∧ gI T (36 + i) 1 = _
    rw [g _ _ (by omega) (by omega) (by omega), g _ _ (by omega) (by omega) (by omega), e _ (by omega) (by omega), e _ (by omega) (by omega)]; exact t5 i hi
  · have q := qL_cg (m' := m') v hi (fun i q1 q2 => e i (by omega) (by omega)) (e _ (by omega) (by omega)) (e _ (by omega) (by omega))
    have hA := (v.e hi).1.2
    have hB := (v.e hi).2.1.2
    have t := t6 i hi
    simp only [] at t
    rw [q.1, q.2.1, q.2.2, e (29 + 5 * i) (by omega) (by omega), e (30 + 5 * i) (by omega) (by omega), e (32 + 5 * i) (by omega) (by omega), e (5 + 2 * qA m i) (by omega) (by omega), e (5 + 2 * qB m i) (by omega) (by omega), e (6 + 2 * qA m i) (by omega) (by omega), e (6 + 2 * qB m i) (by omega) (by omega)]
    simp only []
    rw [g (49 + i) 0 (by omega) (by omega) (by omega), g (49 + i) 1 (by omega) (by omega) (by omega), g (49 + i) 3 (by omega) (by omega) (by omega), g (49 + i) 4 (by omega) (by omega) (by omega), g (49 + i) 6 (by omega) (by omega) (by omega), g (49 + i) 7 (by omega) (by omega) (by omega)]
    refine ⟨⟨t.1.1, t.1.2.1, ?_, t.1.2.2.2.1, ?_⟩, t.2⟩
    · by_cases z : i = j
      · subst z; exact g2
      · rw [g (49 + i) 2 (by omega) (by omega) (by omega), e _ (by omega) (by omega)]; exact t.1.2.2.1
    · by_cases z : i = j
      · subst z; exact g5
      · rw [g (49 + i) 5 (by omega) (by omega) (by omega), e _ (by omega) (by omega)]; exact t.1.2.2.2.2
  · show gI T (70 + i) 0 = _ ∧ gI T (70 + i) 1 = _ ∧ gI T (70 + i) 2 = _
    rw [g _ _ (by omega) (by omega) (by omega), g _ _ (by omega) (by omega) (by omega), g _ _ (by omega) (by omega) (by omega), e _ (by omega) (by omega), e _ (by omega) (by omega), e _ (by omega) (by omega)]; exact t7 i hi
theorem isWide_y {x : Int32} (h : 1 ≤ x.toInt ∧ x.toInt ≤ 9) : f_X_isWide S x = some (1, S) := by
  unfold f_X_isWide; rw [if_neg (lt_n rfl tl1 (by omega)), if_neg (lt_n tl9 rfl (by omega))]
theorem isWide_n {x : Int32} (h : ¬ (1 ≤ x.toInt ∧ x.toInt ≤ 9)) : f_X_isWide S x = some (0, S) := by
  unfold f_X_isWide
  by_cases q : x.toInt < 1
  · rw [if_pos (lt_y rfl tl1 q)]
  · rw [if_neg (lt_n rfl tl1 (by omega)), if_pos (lt_y tl9 rfl (by omega))]
/-- widening, on each side -/
theorem pX_widen (h : Tc S m) {j a : Nat} (hj : j < nSt m) (a1 : 1 ≤ a) (a9 : a ≤ 9) : f_X_widen S (iN j) (iN a) = some (iN (qW m j), uI S (49 + j) 2 (iN a)) ∧ Tc (uI S (49 + j) 2 (iN a)) (up1 m (31 + 5 * j) (iN a)) := by
  have hs := h.1.s.2
  have e := h.1.e hj
  constructor
  · unfold f_X_widen
    rw [hs_at h hj, bd_s, if_neg (by decide), isWide_y (by rw [iN_i (by omega)]; omega), bd_s, if_neg (by decide), ck_of (iN_b (by omega) (by decide)), iN_c (by omega), (h.e hj).2.2.1]
  · exact h.st hj (fun i q1 q2 => up1_n q1) up1_s a1 a9 (by rw [up1_n (by omega)]; exact e.2.2.2.2.2.1) e.2.2.2.2.2.2 (fun b i q1 q2 q3 => by rw [gI_u, if_neg (by omega)]) (by rw [gI_us, up1_s]) (by rw [gI_un (by omega), up1_n (by omega), (h.e hj).2.2.2.2.1, e.2.2.2.2.2.1])
theorem pX_widen_n (h : Tc S m) {x v : Int32} (q : ¬ ((0 ≤ x.toInt ∧ x.toInt < (nSt m : Int)) ∧ (1 ≤ v.toInt ∧ v.toInt ≤ 9))) : f_X_widen S x v = some (-1, S) := by
  unfold f_X_widen
  rw [pT_hasStreet h, bd_s, if_bI]
  by_cases q1 : 0 ≤ x.toInt ∧ x.toInt < (nSt m : Int)
  · rw [decide_eq_true q1, bt_t, isWide_n (fun z => q ⟨q1, z⟩), bd_s, if_pos rfl]
  · rw [decide_eq_false q1, bt_f]
theorem Tn.up (h : Tn S m) {i : Nat} {v : Int32} (v' : VM (up1 m i v)) : Tn (uI S 192 i v) (up1 m i v) := by
  refine ⟨v', fun j hj => ?_⟩
  rw [gI_u]
  unfold up1
  by_cases q : j = i
  · rw [if_pos ⟨rfl, q⟩, if_pos q]
  · rw [if_neg (fun z => q z.2), if_neg q]; exact h.at hj
theorem pM_widen (h : Tn S m) {j a : Nat} (hj : j < nSt m) (a1 : 1 ≤ a) (a9 : a ≤ 9) : f_M_widen S (iN j) (iN a) = some (iN (qW m j), uI S 192 (31 + 5 * j) (iN a)) ∧ Tn (uI S 192 (31 + 5 * j) (iN a)) (up1 m (31 + 5 * j) (iN a)) := by
  have hs := h.1.s.2
  have e := h.1.e hj
  constructor
  · unfold f_M_widen f_M_comes
    have e1 : (29 : Int32) + (5 : Int32) * iN j + (2 : Int32) = iN (31 + 5 * j) := by
      show iN 29 + iN 5 * iN j + iN 2 = _
      rw [iN_m, iN_a, iN_a]; congr 1; omega
    rw [is2 h, iN_i (by omega), decide_eq_true ⟨by omega, by omega⟩, bd_s, if_bI, bt_t, in_y tl1 tl9 (by rw [iN_i (by omega)]; omega), bd_s, if_neg (by decide), e1, ck_of (iN_b (by omega) (by decide)), iN_c (by omega), bd_s, h.at (by omega), e.2.2.2.1.1]
  · exact h.up (h.1.st (a := a) (b := qH m j) hj (fun i q1 q2 => up1_n q1) up1_s a1 a9 (by rw [up1_n (by omega)]; exact e.2.2.2.2.2.1) e.2.2.2.2.2.2).1
theorem pM_widen_n (h : Tn S m) {x v : Int32} (q : ¬ ((0 ≤ x.toInt ∧ x.toInt < (nSt m : Int)) ∧ (1 ≤ v.toInt ∧ v.toInt ≤ 9))) : f_M_widen S x v = some (-1, S) := by
  unfold f_M_widen
  rw [is2 h, bd_s, if_bI]
  by_cases q1 : 0 ≤ x.toInt ∧ x.toInt < (nSt m : Int)
  · rw [decide_eq_true q1, bt_t, in_n tl1 tl9 (fun z => q ⟨q1, z⟩), bd_s, if_pos rfl]
  · rw [decide_eq_false q1, bt_f]
theorem st_in {j : Nat} (v : VM m) (hj : j < nSt m) : 34 ≤ 49 + j ∧ 49 + j < 74 := by have := v.s.2; omega
theorem q_widen (h : Inv k S) (x v : Int32) : Q2 k S (f_X_widen S x v) (fun T => f_M_widen T x v) := by
  obtain ⟨m, l, ht⟩ := h.1
  have hc := ht.1
  have hn := ht.2.1
  by_cases q : (0 ≤ x.toInt ∧ x.toInt < (nSt m : Int)) ∧ (1 ≤ v.toInt ∧ v.toInt ≤ 9)
  · obtain ⟨j, rfl, hj, ej⟩ := iN_of q.1.1
    obtain ⟨a, rfl, ha, ea⟩ := iN_of (show 0 ≤ v.toInt by omega)
    have hj' : j < nSt m := by omega
    obtain ⟨h1, c1⟩ := pX_widen hc hj' (show 1 ≤ a by omega) (by omega)
    have f1 : Fr (fun a => (34 ≤ a ∧ a < 74) ∨ Scr a) S (uI S (49 + j) 2 (iN a)) := Fr.rfl'.uI (Or.inl (st_in hc.1 hj'))
    obtain ⟨h2, n2⟩ := pM_widen (S := uI S (49 + j) 2 (iN a)) (hn.fr f1 (fun z => z.elim (by omega) (nScr (by omega)))) hj' (show 1 ≤ a by omega) (by omega)
    exact Q2.town h ht h1 c1 f1 h2 n2 (Fr.rfl'.uI (Or.inl rfl)) (fun i hi => up1_n (by have := hc.1.s.2; omega))
  · exact Q2.same h (pX_widen_n hc q) (pM_widen_n hn q)
theorem q_shut (h : Inv k S) (x b : Int32) (hb : b = 0 ∨ b = 1) : Q2 k S (f_X_shut S x b) (fun T => f_M_shut T x b) := by
  obtain ⟨m, l, ht⟩ := h.1
  have hc := ht.1
  have hn := ht.2.1
  have hs := hc.1.s.2
  obtain ⟨c, hcb, rfl⟩ : ∃ c : Nat, c ≤ 1 ∧ b = iN c := by
    rcases hb with rfl | rfl
    · exact ⟨0, by omega, rfl⟩
    · exact ⟨1, by omega, rfl⟩
  by_cases q : 0 ≤ x.toInt ∧ x.toInt < (nSt m : Int)
  · obtain ⟨j, rfl, hj, ej⟩ := iN_of q.1
    have hj' : j < nSt m := by omega
    have e := hc.1.e hj'
    have f1 : Fr (fun a => (34 ≤ a ∧ a < 74) ∨ Scr a) S (uI S (49 + j) 5 (iN c)) := Fr.rfl'.uI (Or.inl (st_in hc.1 hj'))
    have hn1 := hn.fr f1 (fun z => z.elim (by omega) (nScr (by omega)))
    have c1 : Tc (uI S (49 + j) 5 (iN c)) (up1 m (33 + 5 * j) (iN c)) := hc.st hj' (fun i q1 q2 => up1_n q2) (by rw [up1_n (by omega)]; exact e.2.2.2.1.1) e.2.2.2.1.2.1 e.2.2.2.1.2.2 up1_s hcb (fun b i q1 q2 q3 => by rw [gI_u, if_neg (by omega)]) (by rw [gI_un (by omega), up1_n (by omega), (hc.e hj').2.2.1, e.2.2.2.1.1]) (by rw [gI_us, up1_s])
    have e1 : (29 : Int32) + (5 : Int32) * iN j + (4 : Int32) = iN (33 + 5 * j) := by
      show iN 29 + iN 5 * iN j + iN 4 = _
      rw [iN_m, iN_a, iN_a]; congr 1; omega
    have h1 : f_X_shut S (iN j) (iN c) = some (if qH m j = c then 0 else 1, uI S (49 + j) 5 (iN c)) := by
      unfold f_X_shut
      rw [hs_at hc hj', bd_s, if_neg (by decide), ck_of (iN_b (by omega) (by decide)), iN_c (by omega), (hc.e hj').2.2.2.2.1, gI_us, gI_us]
      have hcc : c = 0 ∨ c = 1 := by omega
      have hhh : qH m j = 0 ∨ qH m j = 1 := by omega
      rcases hcc with rfl | rfl <;> rcases hhh with z | z <;> rw [z] <;> rfl
    have h2 : f_M_shut (uI S (49 + j) 5 (iN c)) (iN j) (iN c) = some (if qH m j = c then 0 else 1, uI (uI S (49 + j) 5 (iN c)) 192 (33 + 5 * j) (iN c)) := by
      unfold f_M_shut f_M_comes
      rw [is2 hn1, iN_i (by omega), decide_eq_true ⟨by omega, by omega⟩, bd_s, if_bI, bt_t, bd_s, if_bI, bt_t, e1, ck_of (iN_b (by omega) (by decide)), ck_of (iN_b (by omega) (by decide)), iN_c (by omega), bd_s, bd_s, hn1.at (by omega), e.2.2.2.2.2.1]
      have hcc : c = 0 ∨ c = 1 := by omega
      have hhh : qH m j = 0 ∨ qH m j = 1 := by omega
      rcases hcc with rfl | rfl <;> rcases hhh with z | z <;> rw [z] <;> rfl
    refine Q2.town h ht h1 c1 f1 h2 (hn1.up c1.1) (Fr.rfl'.uI (Or.inl rfl)) (fun i hi => up1_n (by omega))
  · refine Q2.same (r := -1) h ?_ ?_
    · unfold f_X_shut
      rw [pT_hasStreet hc, decide_eq_false q, bd_s, if_bI, bt_f]
    · show f_M_shut S x (iN c) = _
      unfold f_M_shut
      rw [is2 hn, decide_eq_false q, bd_s, bd_s, if_bI, if_bI, bt_f, bt_f]
      split <;> rfl
end
