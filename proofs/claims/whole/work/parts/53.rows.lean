/-! Questions of crossings and streets; rows. -/
section
variable {k : cx} {S S1 S2 T : hs} {m m' : Nat → Int32} {l : Lz}
theorem q_streetOf (h : Inv k S) (x y : Int32) : Q2 k S (f_X_streetOf S x y) (fun T => f_M_streetOf T x y) := by
  obtain ⟨m, l, ht⟩ := h.1
  have hc := ht.1
  have hn := ht.2.1
  have hs := hc.1.s.2
  by_cases q : 0 ≤ x.toInt ∧ x.toInt < (nSt m : Int)
  · obtain ⟨j, rfl, hj, ej⟩ := iN_of q.1
    have hj' : j < nSt m := by omega
    by_cases q2 : 0 ≤ y.toInt ∧ y.toInt ≤ 5
    · obtain ⟨b, rfl, hb, eb⟩ := iN_of q2.1
      obtain ⟨e0, e1, e2, e3, e5, e4, -, -⟩ := hc.e hj'
      refine Q2.same (r := gI S (49 + j) b) h ?_ ?_
      · unfold f_X_streetOf
        rw [hs_at hc hj', bd_s, if_neg (by decide), if_neg (lt_n rfl tl0 (by omega)), if_pos (lt_y rfl tl6 (by omega)), ck_of (iN_b (by omega) (by decide)), ck_of (iN_b (by omega) (by decide)), iN_c (by omega), iN_c (by omega)]
      · show f_M_streetOf S _ _ = _
        unfold f_M_streetOf
        rw [is2 hn, decide_eq_true q, bd_s, if_bI, bt_t, in_y tl0 tl5 q2, bd_s, if_neg (by decide)]
        have : b = 0 ∨ b = 1 ∨ b = 2 ∨ b = 3 ∨ b = 4 ∨ b = 5 := by omega
        rcases this with rfl | rfl | rfl | rfl | rfl | rfl
        · rw [if_neg (by decide), show iN 0 = (0 : Int32) from rfl, sI_0 hn hj', bd_s, e0]
        · rw [if_neg (by decide), show iN 1 = (1 : Int32) from rfl, sI_1 hn hj', bd_s, e1]
        · rw [if_neg (by decide), show iN 2 = (2 : Int32) from rfl, sI_2 hn hj', bd_s, e2]
        · rw [if_neg (by decide), show iN 3 = (3 : Int32) from rfl, sI_3 hn hj', bd_s, e3]
        · rw [if_pos (by decide), if_pos (by decide), pM_longOf hn hj', bd_s, e4]
        · rw [if_pos (by decide), if_neg (by decide), sI_4 hn hj', bd_s, e5]
    · refine Q2.same (r := -1) h ?_ ?_
      · unfold f_X_streetOf
        rw [hs_at hc hj', bd_s, if_neg (by decide)]
        by_cases z : y.toInt < 0
        · rw [if_pos (lt_y rfl tl0 z)]
        · rw [if_neg (lt_n rfl tl0 (by omega)), if_neg (lt_n rfl tl6 (by omega))]
      · show f_M_streetOf S _ _ = _
        unfold f_M_streetOf
        rw [is2 hn, decide_eq_true q, bd_s, if_bI, bt_t, in_n tl0 tl5 q2, bd_s, if_pos rfl]
  · refine Q2.same (r := -1) h ?_ ?_
    · unfold f_X_streetOf
      rw [pT_hasStreet hc, decide_eq_false q, bd_s, if_bI, bt_f]
    · show f_M_streetOf S _ _ = _
      unfold f_M_streetOf
      rw [is2 hn, decide_eq_false q, bd_s, if_bI, bt_f]
theorem q_crossingOf (h : Inv k S) (x y : Int32) : Q2 k S (f_X_crossingOf S x y) (fun T => f_M_crossingOf T x y) := by
  obtain ⟨m, l, ht⟩ := h.1
  have hc := ht.1
  have hn := ht.2.1
  have hm := hc.1.c.2
  by_cases q : 0 ≤ x.toInt ∧ x.toInt < (nCr m : Int)
  · obtain ⟨c, rfl, hcc, ec⟩ := iN_of q.1
    have hc' : c < nCr m := by omega
    by_cases q2 : 0 ≤ y.toInt ∧ y.toInt ≤ 3
    · obtain ⟨b, rfl, hb, eb⟩ := iN_of q2.1
      have : b = 0 ∨ b = 1 ∨ b = 2 ∨ b = 3 := by omega
      have x0 : f_X_crossingOf S (iN c) (iN b) = (if iN b = (0 : Int32) then ck (inb (iN c) 12) (ck (inb (iN b) 2) (some ((gI S (36 + (iN c).toNatClampNeg) (iN b).toNatClampNeg), S))) else (if iN b = (1 : Int32) then ck (inb (iN c) 12) (ck (inb (iN b) 2) (some ((gI S (36 + (iN c).toNatClampNeg) (iN b).toNatClampNeg), S))) else (if iN b = (2 : Int32) then bd (f_T_countBeginning S (iN c)) fun r12 S13 => some (r12, S13) else (if iN b = (3 : Int32) then bd (f_T_countEnding S (iN c)) fun r16 S17 => some (r16, S17) else some ((-1 : Int32), S))))) := by
        unfold f_X_crossingOf
        rw [hc_y hc hc', bd_s, if_neg (by decide)]
      have m0 : f_M_crossingOf S (iN c) (iN b) = lp_M_crossingOf_25 (iN c) (iN b) (fun (S24 : hs) (y25 : Int32) (y26 : Int32) => (if (iN b) = 0 then bd (f_M_xOf S24 (iN c)) fun r32 S33 => some (r32, S33) else (if (iN b) = (1 : Int32) then bd (f_M_yOf S24 (iN c)) fun r29 S30 => some (r29, S30) else some (y25, S24)))) 1000 S (0 : Int32) (0 : Int32) := by
        unfold f_M_crossingOf
        rw [is1 hn, decide_eq_true q, bd_s, if_bI, bt_t, in_y tl0 tl3 q2, bd_s, if_neg (by decide)]
      rcases this with rfl | rfl | rfl | rfl
      · refine Q2.same (r := iN (qX m c)) h ?_ ?_
        · rw [x0, if_pos (by decide), ck_of (iN_b (by omega) (by decide)), ck_of (by decide), iN_c (by omega), show (iN 0).toNatClampNeg = 0 from rfl, (hc.x hc').1]
        · show f_M_crossingOf S _ _ = _
          rw [m0, lp_M_crossingOf_25, if_neg (by decide), if_pos (by decide)]
          show (if (iN 0) = 0 then _ else _) = _
          rw [if_pos (by decide), pM_xOf hn hc', bd_s]
      · refine Q2.same (r := iN (qY m c)) h ?_ ?_
        · rw [x0, if_neg (by decide), if_pos (by decide), ck_of (iN_b (by omega) (by decide)), ck_of (by decide), iN_c (by omega), show (iN 1).toNatClampNeg = 1 from rfl, (hc.x hc').2]
        · show f_M_crossingOf S _ _ = _
          rw [m0, lp_M_crossingOf_25, if_neg (by decide), if_pos (by decide)]
          show (if (iN 1) = 0 then _ else if (iN 1) = 1 then _ else _) = _
          rw [if_neg (by decide), if_pos (by decide), pM_yOf hn hc', bd_s]
      · refine Q2.same (r := cfI (fun u => cIs m u && decide (bgn m u = c)) 40 0 0) h ?_ ?_
        · rw [x0, if_neg (by decide), if_neg (by decide), if_pos (by decide)]
          unfold f_T_countBeginning
          rw [show (0 : Int32) = iN 0 from rfl, pT_countBeginning_l hc (by omega) 40 0 1000 _ (by omega) (by omega), bd_s]
        · show f_M_crossingOf S _ _ = _
          have := pM_crossingOf_b hn (c := c) (by omega) (K := fun (S24 : hs) (y25 : Int32) (y26 : Int32) => (if (iN 2) = 0 then bd (f_M_xOf S24 (iN c)) fun r32 S33 => some (r32, S33) else (if (iN 2) = (1 : Int32) then bd (f_M_yOf S24 (iN c)) fun r29 S30 => some (r29, S30) else some (y25, S24)))) 40 0 1000 0 (by omega) (by omega)
          rw [m0]
          exact this
      · refine Q2.same (r := cfI (fun u => cIs m u && decide (enn m u = c)) 40 0 0) h ?_ ?_
        · rw [x0, if_neg (by decide), if_neg (by decide), if_neg (by decide), if_pos (by decide)]
          unfold f_T_countEnding
          rw [show (0 : Int32) = iN 0 from rfl, pT_countEnding_l hc (by omega) 40 0 1000 _ (by omega) (by omega), bd_s]
        · show f_M_crossingOf S _ _ = _
          have := pM_crossingOf_e hn (c := c) (by omega) (K := fun (S24 : hs) (y25 : Int32) (y26 : Int32) => (if (iN 3) = 0 then bd (f_M_xOf S24 (iN c)) fun r32 S33 => some (r32, S33) else (if (iN 3) = (1 : Int32) then bd (f_M_yOf S24 (iN c)) fun r29 S30 => some (r29, S30) else some (y25, S24)))) 40 0 1000 0 (by omega) (by omega)
          rw [m0]
          exact this
    · refine Q2.same (r := -1) h ?_ ?_
      · unfold f_X_crossingOf
        rw [hc_y hc hc', bd_s, if_neg (by decide), if_neg (fun z => by rw [z] at q2; exact q2 (by decide)), if_neg (fun z => by rw [z] at q2; exact q2 (by decide)), if_neg (fun z => by rw [z] at q2; exact q2 (by decide)), if_neg (fun z => by rw [z] at q2; exact q2 (by decide))]
      · show f_M_crossingOf S _ _ = _
        unfold f_M_crossingOf
        rw [is1 hn, decide_eq_true q, bd_s, if_bI, bt_t, in_n tl0 tl3 q2, bd_s, if_pos rfl]
  · refine Q2.same (r := -1) h ?_ ?_
    · unfold f_X_crossingOf
      rw [pT_hasCrossing hc, decide_eq_false q, bd_s, if_bI, bt_f]
    · show f_M_crossingOf S _ _ = _
      unfold f_M_crossingOf
      rw [is1 hn, decide_eq_false q, bd_s, if_bI, bt_f]
end
section
variable {k : cx} {S S1 S2 T : hs} {m m' : Nat → Int32} {l : Lz}
theorem pX_hasRow {n : Nat} (h1 : gI S 33 6 = iN n) (hn : n ≤ 20) (x y : Int32) : f_X_hasRow S x y = some (bI (decide ((0 ≤ x.toInt ∧ x.toInt < (n : Int)) ∧ (0 ≤ y.toInt ∧ y.toInt ≤ 2))), S) := by
  unfold f_X_hasRow
  rw [h1]
  by_cases a1 : x.toInt < 0
  · rw [if_pos (lt_y rfl tl0 a1), decide_eq_false (fun z => by omega)]; rfl
  rw [if_neg (lt_n rfl tl0 (by omega))]
  by_cases a2 : x.toInt < (n : Int)
  · rw [if_neg (le_n (iN_i (by omega)) rfl a2), if_neg (le_n tl20 rfl (by omega))]
    by_cases a3 : y.toInt < 0
    · rw [if_pos (lt_y rfl tl0 a3), decide_eq_false (fun z => by omega)]; rfl
    rw [if_neg (lt_n rfl tl0 (by omega))]
    by_cases a4 : y.toInt ≤ 2
    · rw [if_neg (le_n tl3 rfl (by omega)), decide_eq_true ⟨⟨by omega, a2⟩, by omega, a4⟩]; rfl
    · rw [if_pos (le_y tl3 rfl (by omega)), decide_eq_false (fun z => by omega)]; rfl
  · rw [if_pos (le_y (iN_i (by omega)) rfl (by omega)), decide_eq_false (fun z => by omega)]; rfl
theorem sub1 {n : Nat} (hn : n < 2147483648) : (iN n - (1 : Int32)).toInt = (n : Int) - 1 := by
  rw [i32sub] <;> rw [iN_i hn] <;> show _ <;> first | rfl | (show _ ≤ (n : Int) - 1; omega) | (show (n : Int) - 1 < _; omega)
theorem pM_isRow {n : Nat} (h1 : gI S 191 23 = iN n) (hn : n ≤ 20) (x y : Int32) : f_M_isRow S x y = some (bI (decide ((0 ≤ x.toInt ∧ x.toInt < (n : Int)) ∧ (0 ≤ y.toInt ∧ y.toInt ≤ 2))), S) := by
  unfold f_M_isRow
  rw [h1]
  by_cases a1 : 0 ≤ x.toInt ∧ x.toInt ≤ (n : Int) - 1
  · rw [in_y tl0 (sub1 (by omega)) a1, bd_s, if_neg (by decide)]
    by_cases a2 : 0 ≤ y.toInt ∧ y.toInt ≤ 2
    · rw [in_y tl0 tl2 a2, bd_s, if_neg (by decide), decide_eq_true ⟨⟨a1.1, by omega⟩, a2⟩]; rfl
    · rw [in_n tl0 tl2 a2, bd_s, if_pos rfl, decide_eq_false (fun z => a2 z.2)]; rfl
  · rw [in_n tl0 (sub1 (by omega)) a1, bd_s, if_pos rfl, decide_eq_false (fun z => by omega)]; rfl
theorem q_row (h : Inv k S) (x y : Int32) : Q2 k S (f_X_row S x y) (fun T => f_M_row T x y) := by
  obtain ⟨n, hn, r1, r2, r3⟩ := h.2.2.1
  by_cases q : (0 ≤ x.toInt ∧ x.toInt < (n : Int)) ∧ (0 ≤ y.toInt ∧ y.toInt ≤ 2)
  · obtain ⟨a, rfl, ha, ea⟩ := iN_of q.1.1
    obtain ⟨b, rfl, hb, eb⟩ := iN_of q.2.1
    have e : (3 : Int32) * iN a + iN b = iN (3 * a + b) := by show iN 3 * iN a + iN b = _; rw [iN_m, iN_a]
    refine Q2.same (r := gI S 205 (3 * a + b)) h ?_ ?_
    · unfold f_X_row
      rw [pX_hasRow r1 hn, decide_eq_true q, bd_s, if_bI, bt_t, ck_of (iN_b (by omega) (by decide)), ck_of (iN_b (by omega) (by decide)), iN_c (by omega), iN_c (by omega), r3 a (by omega) b (by omega)]
    · show f_M_row S _ _ = _
      unfold f_M_row
      rw [pM_isRow r2 hn, decide_eq_true q, bd_s, if_bI, bt_t, e, ck_of (iN_b (by omega) (by decide)), iN_c (by omega)]
  · refine Q2.same (r := -9) h ?_ ?_
    · unfold f_X_row
      rw [pX_hasRow r1 hn, decide_eq_false q, bd_s, if_bI, bt_f]
    · show f_M_row S _ _ = _
      unfold f_M_row
      rw [pM_isRow r2 hn, decide_eq_false q, bd_s, if_bI, bt_f]
/-- what is kept of the rest, if no more than these cells change -/
theorem Inv.cg (h : Inv k S) (hR : IvR T) (e : ∀ a i, ¬ (171 ≤ a ∧ a < 191) → a ≠ 205 → ¬ (a = 33 ∧ i = 6) → ¬ (a = 191 ∧ i = 23) → ¬ Scr a → gI T a i = gI S a i) (f : ∀ a i, ¬ Scr a → gJ T a i = gJ S a i) : Inv k T := by
  obtain ⟨⟨m, l, hc, hn, hlc, hlm⟩, hk, hr, hp, hh, hg, ha, hs, hi⟩ := h
  have e' : ∀ a i, (a < 33 ∨ (33 < a ∧ a < 80) ∨ (80 < a ∧ a < 138) ∨ (158 < a ∧ a < 171) ∨ (191 < a ∧ a < 200) ∨ 205 < a ∨ (a = 33 ∧ i ≠ 6) ∨ (a = 191 ∧ i ≠ 23)) → gI T a i = gI S a i := fun a i q => e a i (by omega) (by omega) (by omega) (by omega) (nScr (by omega))
  refine ⟨⟨m, l, ⟨hc.1, hc.2.cg (fun a h1 h2 i => e' a i (by omega)) hc.1.c.2 hc.1.s.2 hc.1.w.2⟩, ⟨hn.1, fun i hi => (e' 192 i (by omega)).trans (hn.2 i hi)⟩, hlc.cg (e' _ _ (by omega)) (fun i _ => e' _ _ (by omega)) (fun i _ => e' _ _ (by omega)) (fun i _ => e' _ _ (by omega)) (fun i _ => e' _ _ (by omega)) (fun i _ => e' _ _ (by omega)), hlm⟩, hk.cg (fun a i q => e' a i (by omega)), hR, hp.cg (fun a i q => e' a i (by omega)), hh.cg (fun a i q => e' a i (by omega)) (fun a i q1 q2 => f a i (nScr (by omega))), hg.cg (fun a i q => e' a i (by omega)), ha.cg (fun a i q => e' a i (by omega)), hs.cg (fun a i q1 q2 => e' a i (by omega)), (e' 191 3 (by omega)).trans hi⟩
theorem q_alterRow (h : Inv k S) (x y v : Int32) : Q2 k S (f_X_alterRow S x y v) (fun T => f_M_alterRow T x y v) := by
  obtain ⟨n, hn, r1, r2, r3⟩ := h.2.2.1
  by_cases q : (0 ≤ x.toInt ∧ x.toInt < (n : Int)) ∧ (0 ≤ y.toInt ∧ y.toInt ≤ 2)
  · obtain ⟨a, rfl, ha, ea⟩ := iN_of q.1.1
    obtain ⟨b, rfl, hb, eb⟩ := iN_of q.2.1
    have e : (3 : Int32) * iN a + iN b = iN (3 * a + b) := by show iN 3 * iN a + iN b = _; rw [iN_m, iN_a]
    have h1 : f_X_alterRow S (iN a) (iN b) v = some (gI S 205 (3 * a + b), uI S (171 + a) b v) := by
      unfold f_X_alterRow
      rw [pX_hasRow r1 hn, decide_eq_true q, bd_s, if_bI, bt_t, ck_of (iN_b (by omega) (by decide)), ck_of (iN_b (by omega) (by decide)), iN_c (by omega), iN_c (by omega), r3 a (by omega) b (by omega)]
    have h2 : f_M_alterRow (uI S (171 + a) b v) (iN a) (iN b) v = some (gI S 205 (3 * a + b), uI (uI S (171 + a) b v) 205 (3 * a + b) v) := by
      unfold f_M_alterRow
      rw [pM_isRow (by rw [gI_ua (by omega)]; exact r2) hn, decide_eq_true q, bd_s, if_bI, bt_t, e, ck_of (iN_b (by omega) (by decide)), iN_c (by omega), gI_ua (by omega)]
    refine ⟨_, _, _, h1, h2, fun j => gI_ua (by omega), h.cg ⟨n, hn, ?_, ?_, fun i hi c hc => ?_⟩ (fun c i q1 q2 q3 q4 q5 => by rw [gI_ua (by omega), gI_ua (by omega)]) (fun _ _ _ => rfl)⟩
    · rw [gI_ua (by omega), gI_ua (by omega)]; exact r1
    · rw [gI_ua (by omega), gI_ua (by omega)]; exact r2
    · have := r3 i hi c hc
      rw [gI_u, gI_u, gI_u, gI_u]
      grind
  · refine Q2.same (r := -9) h ?_ ?_
    · unfold f_X_alterRow
      rw [pX_hasRow r1 hn, decide_eq_false q, bd_s, if_bI, bt_f]
    · show f_M_alterRow S _ _ _ = _
      unfold f_M_alterRow
      rw [pM_isRow r2 hn, decide_eq_false q, bd_s, if_bI, bt_f]
end
