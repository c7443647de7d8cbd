/-! Widths out of a sheet. -/
def wdm (it : Nat → Int32) (sz j : Nat) : Nat → Nat → (Nat → Int32) → Int32 → Int32 × (Nat → Int32)
  | 0, _, m, c => (c, m)
  | r + 1, k, m, c => if j + k < sz then (if k < nSt m ∧ 1 ≤ (it k).toInt ∧ (it k).toInt ≤ 9 then wdm it sz j r (k + 1) (up1 m (31 + 5 * k) (it k)) (c + 1) else wdm it sz j r (k + 1) m c) else (-12, m)
section
variable {k : cx} {S S1 S2 T : hs} {m m' : Nat → Int32} {l : Lz}
theorem wdm_hi {it : Nat → Int32} {sz j : Nat} : ∀ (r k : Nat) (m : Nat → Int32) (c : Int32), k + r ≤ 20 → ∀ i, i = 4 ∨ 141 ≤ i ∧ i < 358 → (wdm it sz j r k m c).2 i = m i := by
  intro r
  induction r with
  | zero => intro k m c _ i _; rfl
  | succ r ih =>
    intro k m c hk i hi
    rw [wdm]
    split
    · split
      · rw [ih (k + 1) _ _ (by omega) i hi, up1_n (by omega)]
      · rw [ih (k + 1) _ _ (by omega) i hi]
    · rfl
theorem wd_ne {m : Nat → Int32} (v : VM m) {j : Nat} (hj : j < nSt m) : ¬ iN (qW m j) = -1 := by
  have := (v.e hj).2.2.2.1.2
  intro z
  have := congrArg Int32.toInt z
  rw [iN_i (by omega)] at this
  exact absurd this (by show ¬ (_ : Int) = -1; omega)
theorem hasItemS {s sz : Nat} (hs4 : s < 4) (hz : sz ≤ 40) (e : gI T 161 s = iN sz) (j : Nat) (hj : j < 1000) : f_H_hasItem T (iN s) (iN j) = some (bI (decide (j < sz)), T) := by
  unfold f_H_hasItem
  rw [ck_of (iN_b (by omega) (by decide)), iN_c (by omega), e, if_neg (lt_n (iN_i (by omega)) tl0 (by omega))]
  by_cases q : j < sz
  · rw [if_neg (le_n (iN_i (by omega)) (iN_i (by omega)) (by omega)), if_neg (le_n tl40 (iN_i (by omega)) (by omega)), decide_eq_true q]; rfl
  · rw [if_pos (le_y (iN_i (by omega)) (iN_i (by omega)) (by omega)), decide_eq_false q]; rfl
theorem pX_wides_l {it : Nat → Int32} {s sz j n : Nat} (hs4 : s < 4) (hz : sz ≤ 40) (hj : j < 40) (hn : n ≤ 20) (e1 : gI S 161 s = iN sz) (e2 : ∀ k, j + k < 40 → (gJ S (163 + s) (j + k)).toInt32 = it k) : ∀ (r k f : Nat) (m : Nat → Int32) (c : Int32) (T : hs), Fr (fun a => 34 ≤ a ∧ a < 74) S T → Tc T m → k + r = n → r < f → ∃ U, lp_X_wides_48 (iN s) (iN j) (iN n) f T c (iN k) = some ((wdm it sz j r k m c).1, U) ∧ Tc U (wdm it sz j r k m c).2 ∧ Fr (fun a => 34 ≤ a ∧ a < 74) S U := by
  intro r
  induction r with
  | zero =>
    intro k f m c T fr hc hk hf
    obtain ⟨f, rfl⟩ : ∃ q, f = q + 1 := ⟨f - 1, by omega⟩
    refine ⟨T, ?_, hc, fr⟩
    rw [lp_X_wides_48, if_pos ((iN_le (by omega) (by omega)).mpr (by omega))]; rfl
  | succ r ih =>
    intro k f m c T fr hc hk hf
    obtain ⟨f, rfl⟩ : ∃ q, f = q + 1 := ⟨f - 1, by omega⟩
    have eT : ∀ i, gI T 161 i = gI S 161 i := fun i => (fr 161 (by omega)).1 i
    rw [lp_X_wides_48, if_neg (fun z => by have := (iN_le (by omega) (by omega)).mp z; omega), iN_a, hasItemS hs4 hz ((eT s).trans e1) (j + k) (by omega), bd_s, if_bI, iN_1, wdm]
    by_cases q : j + k < sz
    · rw [decide_eq_true q, bt_t, if_pos q, ck_of (iN_b (by omega) (by decide)), ck_of (iN_b (by omega) (by decide)), iN_c (by omega), iN_c (by omega), (fr (163 + s) (by omega)).2, e2 k (by omega)]
      by_cases q2 : k < nSt m ∧ 1 ≤ (it k).toInt ∧ (it k).toInt ≤ 9
      · rw [if_pos q2]
        obtain ⟨a, ea, ha, ea2⟩ := iN_of (show 0 ≤ (it k).toInt by omega)
        rw [ea] at ea2 ⊢
        have q2' : 1 ≤ a ∧ a ≤ 9 := by have := q2.2; rw [ea] at this; omega
        obtain ⟨h1, c1⟩ := pX_widen hc q2.1 q2'.1 q2'.2
        have := hc.1.s.2
        rw [h1, bd_s, if_neg (wd_ne hc.1 q2.1)]
        exact ih (k + 1) f _ _ _ (fr.uI (st_in hc.1 q2.1)) c1 (by omega) (by omega)
      · rw [if_neg q2, pX_widen_n hc (fun z => q2 (by rw [iN_i (by omega)] at z; omega)), bd_s, if_pos rfl]
        exact ih (k + 1) f _ _ _ fr hc (by omega) (by omega)
    · rw [decide_eq_false q, bt_f, if_neg q]
      exact ⟨T, rfl, hc, fr⟩
theorem pM_wides_l {it : Nat → Int32} {s sz j n : Nat} (hs4 : s < 4) (hz : sz ≤ 40) (hj : j < 40) (hn : n ≤ 20) (e1 : gI S 208 s = iN sz) (e2 : ∀ k, j + k < 40 → gI S 206 (40 * s + j + k) = it k) : ∀ (r k f : Nat) (m : Nat → Int32) (c : Int32) (T : hs), Fr (fun a => a = 192) S T → Tn T m → k + r = n → r < f → ∃ U, lp_M_wides_49 (iN s) (iN j) (iN n) f T c (iN k) = some ((wdm it sz j r k m c).1, U) ∧ Tn U (wdm it sz j r k m c).2 ∧ Fr (fun a => a = 192) S U := by
  intro r
  induction r with
  | zero =>
    intro k f m c T fr hc hk hf
    obtain ⟨f, rfl⟩ : ∃ q, f = q + 1 := ⟨f - 1, by omega⟩
    refine ⟨T, ?_, hc, fr⟩
    rw [lp_M_wides_49, if_pos ((iN_le (by omega) (by omega)).mpr (by omega))]; rfl
  | succ r ih =>
    intro k f m c T fr hc hk hf
    obtain ⟨f, rfl⟩ : ∃ q, f = q + 1 := ⟨f - 1, by omega⟩
    have eT : ∀ i, gI T 208 i = gI S 208 i := fun i => (fr 208 (by decide)).1 i
    have eU : ∀ i, gI T 206 i = gI S 206 i := fun i => (fr 206 (by decide)).1 i
    have es : (iN sz - iN k).toInt = (sz : Int) - (k : Int) := by
      rw [i32sub] <;> rw [iN_i (by omega), iN_i (by omega)] <;> omega
    have e : (40 : Int32) * iN s + iN j + iN k = iN (40 * s + j + k) := by show iN 40 * iN s + iN j + iN k = _; rw [iN_m, iN_a, iN_a]
    rw [lp_M_wides_49, if_neg (fun z => by have := (iN_le (by omega) (by omega)).mp z; omega), if_neg (lt_n (iN_i (by omega)) tl0 (by omega)), ck_of (iN_b (by omega) (by decide)), iN_c (by omega), eT, e1, e, wdm]
    by_cases q : j + k < sz
    · rw [if_pos (lt_y (iN_i (by omega)) es (by omega)), if_pos q, ck_of (iN_b (by omega) (by decide)), iN_c (by omega), eU, e2 k (by omega), iN_1]
      by_cases q2 : k < nSt m ∧ 1 ≤ (it k).toInt ∧ (it k).toInt ≤ 9
      · rw [if_pos q2]
        obtain ⟨a, ea, ha, ea2⟩ := iN_of (show 0 ≤ (it k).toInt by omega)
        rw [ea] at ea2 ⊢
        have q2' : 1 ≤ a ∧ a ≤ 9 := by have := q2.2; rw [ea] at this; omega
        obtain ⟨h1, c1⟩ := pM_widen hc q2.1 q2'.1 q2'.2
        rw [h1, bd_s, if_neg (wd_ne hc.1 q2.1)]
        exact ih (k + 1) f _ _ _ (fr.uI rfl) c1 (by omega) (by omega)
      · rw [if_neg q2, pM_widen_n hc (fun z => q2 (by rw [iN_i (by omega)] at z; omega)), bd_s, if_pos rfl, Int32.add_zero]
        exact ih (k + 1) f _ _ _ fr hc (by omega) (by omega)
    · rw [if_neg (lt_n (iN_i (by omega)) es (by omega)), if_neg q]
      exact ⟨T, rfl, hc, fr⟩
theorem q_wides (h : Inv k S) (x i n : Int32) : Q2 k S (f_X_wides S x i n) (fun T => f_M_wides T x i n) := by
  obtain ⟨m, l, ht⟩ := h.1
  by_cases q : 0 ≤ x.toInt ∧ x.toInt ≤ 3
  · obtain ⟨s, rfl, hs, es⟩ := iN_of q.1
    have hs4 : s < 4 := by omega
    obtain ⟨h1, h2, h3, h4, h5⟩ := h.2.2.2.2.1 s hs4
    by_cases q1 : 0 ≤ n.toInt ∧ n.toInt ≤ 20
    · obtain ⟨n, rfl, hn, en⟩ := iN_of q1.1
      have x0 : f_X_wides S (iN s) i (iN n) = bd (f_H_refuseAs S (iN s) (0 : Int32)) fun r7 S8 => (if r7 = 0 then lp_X_wides_48 (iN s) i (iN n) 1000 S8 (0 : Int32) (0 : Int32) else some (r7, S8)) := by
        unfold f_X_wides
        rw [(sh_y q).1, bd_s, if_neg (by decide), if_neg (lt_n rfl tl0 (by omega)), if_pos (le_y rfl tl20 (by omega))]
      have m0 : ∀ S, f_M_wides S (iN s) i (iN n) = (if (gI S 207 s) ≤ 0 then (if 0 ≤ (gI S 207 s) then lp_M_wides_49 (iN s) i (iN n) 1000 S (0 : Int32) (0 : Int32) else some ((-11 : Int32), S)) else some ((-13 : Int32), S)) := by
        intro S
        unfold f_M_wides
        rw [(sh_y q).2.2.1, bd_s, if_neg (by decide), in_y tl0 tl20 q1, bd_s, if_neg (by decide), ck_of (iN_b (by omega) (by decide)), iN_c (by omega)]
      unfold f_H_refuseAs at x0
      rw [ck_of (iN_b (by omega) (by decide)), iN_c (by omega), h1] at x0
      rcases nI32 h3.1 with hm | hm
      · refine Q2.same (r := -11) h ?_ ?_
        · rw [x0, if_pos hm, bd_s, if_neg (by decide)]
        · show f_M_wides S _ _ _ = _
          rw [m0, hm, if_pos (by decide), if_neg (by decide)]
      · have hm' : ¬ gI S 207 s = -1 := fun z => by rw [z] at hm; exact absurd hm (by decide)
        by_cases q2 : gI S 207 s = 0
        · have x1 : f_X_wides S (iN s) i (iN n) = lp_X_wides_48 (iN s) i (iN n) 1000 S (0 : Int32) (0 : Int32) := by rw [x0, if_neg hm', if_pos q2, bd_s, if_pos rfl]
          have m1 : ∀ T, gI T 207 s = 0 → f_M_wides T (iN s) i (iN n) = lp_M_wides_49 (iN s) i (iN n) 1000 T (0 : Int32) (0 : Int32) := fun T e => by rw [m0, e, if_pos (by decide), if_pos (by decide)]
          by_cases q3 : n = 0
          · subst q3
            refine Q2.same (r := 0) h ?_ ?_
            · rw [x1, lp_X_wides_48, if_pos (by decide)]
            · show f_M_wides S _ _ _ = _
              rw [m1 S q2, lp_M_wides_49, if_pos (by decide)]
          · by_cases q4 : 0 ≤ i.toInt ∧ i.toInt < (gI S 208 s).toInt
            · obtain ⟨j, rfl, hj, ej⟩ := iN_of q4.1
              obtain ⟨sz, esz, hsz, esz2⟩ := iN_of h4.1
              obtain ⟨S1, a1, a2, a3⟩ := pX_wides_l (it := fun k => gI S 206 (40 * s + j + k)) (s := s) (sz := sz) (j := j) (n := n) hs4 (by omega) (by omega) (by omega) (h2.trans esz) (fun k hk => by rw [h5 (j + k) hk, Int32.toInt32_toInt64, show 40 * s + (j + k) = 40 * s + j + k by omega]) n 0 1000 m 0 S Fr.rfl' ht.1 (by omega) (by omega)
              have fr : Fr (fun a => (34 ≤ a ∧ a < 74) ∨ Scr a) S S1 := a3.mono (fun _ z => Or.inl z)
              have e1 : ∀ a i, ¬ (34 ≤ a ∧ a < 74) → gI S1 a i = gI S a i := fun a i z => (a3 a z).1 i
              obtain ⟨S2, b1, b2, b3⟩ := pM_wides_l (S := S1) (it := fun k => gI S 206 (40 * s + j + k)) (s := s) (sz := sz) (j := j) (n := n) hs4 (by omega) (by omega) (by omega) ((e1 _ _ (by omega)).trans esz) (fun k hk => e1 _ _ (by omega)) n 0 1000 m 0 S1 Fr.rfl' (ht.2.1.fr fr (fun z => z.elim (by omega) (nScr (by omega)))) (by omega) (by omega)
              exact Q2.town h ht (x1.trans a1) a2 fr ((m1 S1 ((e1 _ _ (by omega)).trans q2)).trans b1) b2 (b3.mono (fun _ z => Or.inl z)) (wdm_hi n 0 m 0 (by omega))
            · refine Q2.same (r := -12) h ?_ ?_
              · rw [x1, lp_X_wides_48, if_neg (fun z => by have := (iN_le (b := 0) (by omega) (by omega)).mp z; omega), show i + (0 : Int32) = i from Int32.add_zero i, hasItem_y h hs4, decide_eq_false q4, bd_s, if_bI, bt_f]
              · show f_M_wides S _ _ _ = _
                rw [m1 S q2, lp_M_wides_49, if_neg (fun z => by have := (iN_le (b := 0) (by omega) (by omega)).mp z; omega)]
                by_cases z : i.toInt < 0
                · rw [if_pos (lt_y rfl tl0 z)]
                · rw [if_neg (lt_n rfl tl0 (by omega)), ck_of (iN_b (by omega) (by decide)), iN_c (by omega), show gI S 208 s - (0 : Int32) = gI S 208 s from Int32.sub_zero _, if_neg (lt_n rfl rfl (by omega))]
        · refine Q2.same (r := -13) h ?_ ?_
          · rw [x0, if_neg hm', if_neg q2, bd_s, if_neg (by decide)]
          · show f_M_wides S _ _ _ = _
            have : ¬ (gI S 207 s).toInt = 0 := fun z => q2 (Int32.toInt_inj.mp (by rw [z]; rfl))
            rw [m0, if_neg (le_n rfl tl0 (by omega))]
    · refine Q2.same (r := -1) h ?_ ?_
      · unfold f_X_wides
        rw [(sh_y q).1, bd_s, if_neg (by decide)]
        by_cases z : n.toInt < 0
        · rw [if_pos (lt_y rfl tl0 z)]
        · rw [if_neg (lt_n rfl tl0 (by omega)), if_neg (le_n rfl tl20 (by omega))]
      · show f_M_wides S _ _ _ = _
        unfold f_M_wides
        rw [(sh_y q).2.2.1, bd_s, if_neg (by decide), in_n tl0 tl20 q1, bd_s, if_pos rfl]
  · refine Q2.same (r := -1) h ?_ ?_
    · unfold f_X_wides
      rw [(sh_n q).1, bd_s, if_pos rfl]
    · show f_M_wides S _ _ _ = _
      unfold f_M_wides
      rw [(sh_n q).2.2.1, bd_s, if_pos rfl]
end
