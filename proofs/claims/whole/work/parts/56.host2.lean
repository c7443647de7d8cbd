/-! Items of sheets, shelves. -/
section
variable {k : cx} {S S1 S2 T : hs} {m m' : Nat → Int32} {l : Lz}
theorem nI32 {y : Int32} (h : -1 ≤ y.toInt) : y = -1 ∨ 0 ≤ y.toInt := by
  by_cases q : y.toInt = -1
  · exact Or.inl (Int32.toInt_inj.mp (by rw [q]; rfl))
  · exact Or.inr (by omega)
theorem hasItem_y (h : Inv k S) {s : Nat} (hs4 : s < 4) {x : Int32} : f_H_hasItem S (iN s) x = some (bI (decide (0 ≤ x.toInt ∧ x.toInt < (gI S 208 s).toInt)), S) := by
  obtain ⟨h1, h2, h3, h4, h5⟩ := h.2.2.2.2.1 s hs4
  unfold f_H_hasItem
  rw [ck_of (iN_b (by omega) (by decide)), iN_c (by omega), h2]
  by_cases a1 : x.toInt < 0
  · rw [if_pos (lt_y rfl tl0 a1), decide_eq_false (fun z => by omega)]; rfl
  rw [if_neg (lt_n rfl tl0 (by omega))]
  by_cases a2 : x.toInt < (gI S 208 s).toInt
  · rw [if_neg (le_n rfl rfl a2), if_neg (le_n tl40 rfl (by omega)), decide_eq_true ⟨by omega, a2⟩]; rfl
  · rw [if_pos (le_y rfl rfl (by omega)), decide_eq_false (fun z => by omega)]; rfl
theorem sub1z (z : Int32) (h : 0 ≤ z.toInt) : (z - (1 : Int32)).toInt = z.toInt - 1 := by
  rw [i32sub] <;> show _ <;> first | rfl | (show _ ≤ z.toInt - 1; omega) | (show z.toInt - 1 < _; have := z.toInt_lt; omega)
theorem inM_y (h : Inv k S) {s : Nat} (hs4 : s < 4) {x : Int32} : f_M_in S x (0 : Int32) ((gI S 208 s) - (1 : Int32)) = some (bI (decide (0 ≤ x.toInt ∧ x.toInt < (gI S 208 s).toInt)), S) := by
  obtain ⟨h1, h2, h3, h4, h5⟩ := h.2.2.2.2.1 s hs4
  by_cases a : 0 ≤ x.toInt ∧ x.toInt ≤ (gI S 208 s).toInt - 1
  · rw [in_y tl0 (sub1z _ h4.1) a, decide_eq_true ⟨a.1, by omega⟩]; rfl
  · rw [in_n tl0 (sub1z _ h4.1) a, decide_eq_false (fun z => a ⟨z.1, by omega⟩)]; rfl
theorem nrw {y v : Int32} (h : 0 ≤ y.toInt ∧ y.toInt ≤ 4) : ∃ r : Int32, f_X_narrowed S y v = some (r.toInt64, S) ∧ ∀ T, f_M_narrowed T y v = some (r, T) := by
  obtain ⟨n, rfl, hn, en⟩ := iN_of h.1
  have : n = 0 ∨ n = 1 ∨ n = 2 ∨ n = 3 ∨ n = 4 := by omega
  unfold f_X_narrowed f_M_narrowed
  rcases this with rfl | rfl | rfl | rfl | rfl
  · exact ⟨v.toInt8.toInt32, rfl, fun T => rfl⟩
  · exact ⟨v.toInt16.toInt32, rfl, fun T => rfl⟩
  · exact ⟨v, rfl, fun T => rfl⟩
  · exact ⟨v, rfl, fun T => rfl⟩
  · refine ⟨if v = 0 then 0 else 1, ?_, fun T => ?_⟩
    · rw [if_neg (by decide), if_neg (by decide), if_neg (by decide), if_neg (by decide), if_pos (by decide)]
      split <;> rfl
    · rw [if_neg (by decide), if_neg (by decide), if_pos (by decide)]
      split <;> rfl
theorem q_write (h : Inv k S) (x i v : Int32) : Q2 k S (f_X_write S x i v) (fun T => f_M_write T x i v) := by
  by_cases q : 0 ≤ x.toInt ∧ x.toInt ≤ 3
  · obtain ⟨s, rfl, hs, es⟩ := iN_of q.1
    have hs4 : s < 4 := by omega
    obtain ⟨h1, h2, h3, h4, h5⟩ := h.2.2.2.2.1 s hs4
    rcases nI32 h3.1 with hm | hm
    · refine Q2.same (r := -11) h ?_ ?_
      · unfold f_X_write
        rw [(sh_y q).1, bd_s, if_neg (by decide), ck_of (iN_b (by omega) (by decide)), iN_c (by omega), h1, if_pos hm]
      · show f_M_write S _ _ _ = _
        unfold f_M_write
        rw [(sh_y q).2.2.1, bd_s, if_neg (by decide), ck_of (iN_b (by omega) (by decide)), iN_c (by omega), hm, if_neg (by decide)]
    · have hm' : ¬ gI S 207 s = -1 := fun z => by rw [z] at hm; exact absurd hm (by decide)
      have x0 : f_X_write S (iN s) i v = bd (f_H_hasItem S (iN s) i) fun r7 S8 => (if r7 = 0 then some ((-12 : Int32), S8) else bd (f_X_narrowed S8 (gI S8 160 s) v) fun r11 S12 => ck (inb i 40) (some ((1 : Int32), (uJ S12 (163 + s) (i).toNatClampNeg r11)))) := by
        unfold f_X_write
        rw [(sh_y q).1, bd_s, if_neg (by decide), ck_of (iN_b (by omega) (by decide)), iN_c (by omega), h1, if_neg hm']
      by_cases q2 : 0 ≤ i.toInt ∧ i.toInt < (gI S 208 s).toInt
      · obtain ⟨j, rfl, hj, ej⟩ := iN_of q2.1
        obtain ⟨r, n1, n2⟩ := nrw (S := S) (v := v) ⟨hm, h3.2⟩
        have e : (40 : Int32) * iN s + iN j = iN (40 * s + j) := by show iN 40 * iN s + iN j = _; rw [iN_m, iN_a]
        refine ⟨1, uJ S (163 + s) j r.toInt64, uI (uJ S (163 + s) j r.toInt64) 206 (40 * s + j) r, ?_, ?_, fun _ => rfl, h.hst (fun a i q1 q2 => by rw [gI_ua (by omega), gI_J]) ?_ (h.2.2.2.2.2.1.cg (fun a i q => by rw [gI_ua (by omega), gI_J]))⟩
        · rw [x0, hasItem_y h hs4, decide_eq_true q2, bd_s, if_bI, bt_t, h1, n1, bd_s, ck_of (iN_b (by omega) (by decide)), iN_c (by omega)]
        · show f_M_write (uJ S (163 + s) j r.toInt64) _ _ _ = _
          unfold f_M_write
          rw [(sh_y q).2.2.1, bd_s, if_neg (by decide), ck_of (iN_b (by omega) (by decide)), iN_c (by omega), gI_J, if_pos (le_y tl0 rfl hm), gI_J, in_y tl0 (sub1z _ h4.1) ⟨q2.1, by omega⟩, bd_s, if_neg (by decide), gI_J, n2, bd_s, e, ck_of (iN_b (by omega) (by decide)), iN_c (by omega)]
        · intro t ht
          have e := h.2.2.2.2.1 t ht
          rw [gI_ua (by omega), gI_ua (by omega), gI_ua (by omega), gI_ua (by omega), gI_J, gI_J, gI_J, gI_J]
          refine ⟨e.1, e.2.1, e.2.2.1, e.2.2.2.1, fun i hi => ?_⟩
          have e5 := e.2.2.2.2 i hi
          rw [gJ_I, gJ_u, gI_u, gI_J]
          by_cases z : t = s ∧ i = j
          · obtain ⟨rfl, rfl⟩ := z
            rw [if_pos ⟨rfl, rfl⟩, if_pos ⟨rfl, rfl⟩]
          · rw [if_neg (by omega), if_neg (by omega)]; exact e5
      · refine Q2.same (r := -12) h ?_ ?_
        · rw [x0, hasItem_y h hs4, decide_eq_false q2, bd_s, if_bI, bt_f]
        · show f_M_write S _ _ _ = _
          unfold f_M_write
          rw [(sh_y q).2.2.1, bd_s, if_neg (by decide), ck_of (iN_b (by omega) (by decide)), iN_c (by omega), if_pos (le_y tl0 rfl hm), inM_y h hs4, decide_eq_false q2, bd_s, if_bI, bt_f]
  · refine Q2.same (r := -1) h ?_ ?_
    · unfold f_X_write
      rw [(sh_n q).1, bd_s, if_pos rfl]
    · show f_M_write S _ _ _ = _
      unfold f_M_write
      rw [(sh_n q).2.2.1, bd_s, if_pos rfl]
theorem q_item (h : Inv k S) (x y i : Int32) : Q2 k S (f_X_item S x y i) (fun T => f_M_item T x y i) := by
  by_cases q : 0 ≤ x.toInt ∧ x.toInt ≤ 3
  · obtain ⟨s, rfl, hs, es⟩ := iN_of q.1
    have hs4 : s < 4 := by omega
    obtain ⟨h1, h2, h3, h4, h5⟩ := h.2.2.2.2.1 s hs4
    by_cases q1 : 0 ≤ y.toInt ∧ y.toInt ≤ 4
    · have x0 : f_X_item S (iN s) y i = bd (f_H_refuseAs S (iN s) y) fun r9 S10 => (if r9 = 0 then bd (f_H_hasItem S10 (iN s) i) fun r13 S14 => (if r13 = 0 then some ((-12 : Int32), S14) else ck (inb (iN s) 4) (ck (inb i 40) (some (((gJ S14 (163 + (iN s).toNatClampNeg) (i).toNatClampNeg).toInt32), S14)))) else some (r9, S10)) := by
        unfold f_X_item
        rw [(sh_y q).1, bd_s, if_neg (by decide), sort_y q1, bd_s, if_neg (by decide)]
      have m0 : f_M_item S (iN s) y i = (if 0 ≤ (gI S 207 s) then (if (gI S 207 s) = y then bd (f_M_in S i (0 : Int32) ((gI S 208 s) - (1 : Int32))) fun r12 S13 => (if r12 = 0 then some ((-12 : Int32), S13) else ck (inb (((40 : Int32) * iN s) + i) 160) (some ((gI S13 206 ((((40 : Int32) * iN s) + i)).toNatClampNeg), S13))) else some ((-13 : Int32), S)) else some ((-11 : Int32), S)) := by
        unfold f_M_item
        rw [(sh_y q).2.2.1, bd_s, if_neg (by decide), in_y tl0 tl4 q1, bd_s, if_neg (by decide), ck_of (iN_b (by omega) (by decide)), iN_c (by omega)]
      unfold f_H_refuseAs at x0
      rw [ck_of (iN_b (by omega) (by decide)), iN_c (by omega), h1] at x0
      rcases nI32 h3.1 with hm | hm
      · refine Q2.same (r := -11) h ?_ ?_
        · rw [x0, if_pos hm, bd_s, if_neg (by decide)]
        · show f_M_item S _ _ _ = _
          rw [m0, hm, if_neg (by decide)]
      · have hm' : ¬ gI S 207 s = -1 := fun z => by rw [z] at hm; exact absurd hm (by decide)
        by_cases q2 : gI S 207 s = y
        · by_cases q3 : 0 ≤ i.toInt ∧ i.toInt < (gI S 208 s).toInt
          · obtain ⟨j, rfl, hj, ej⟩ := iN_of q3.1
            have e : (40 : Int32) * iN s + iN j = iN (40 * s + j) := by show iN 40 * iN s + iN j = _; rw [iN_m, iN_a]
            refine Q2.same (r := gI S 206 (40 * s + j)) h ?_ ?_
            · rw [x0, if_neg hm', if_pos q2, bd_s, if_pos rfl, hasItem_y h hs4, decide_eq_true q3, bd_s, if_bI, bt_t, ck_of (iN_b (by omega) (by decide)), ck_of (iN_b (by omega) (by decide)), iN_c (by omega), h5 j (by omega), Int32.toInt32_toInt64]
            · show f_M_item S _ _ _ = _
              rw [m0, if_pos (le_y tl0 rfl hm), if_pos q2, inM_y h hs4, decide_eq_true q3, bd_s, if_bI, bt_t, e, ck_of (iN_b (by omega) (by decide)), iN_c (by omega)]
          · refine Q2.same (r := -12) h ?_ ?_
            · rw [x0, if_neg hm', if_pos q2, bd_s, if_pos rfl, hasItem_y h hs4, decide_eq_false q3, bd_s, if_bI, bt_f]
            · show f_M_item S _ _ _ = _
              rw [m0, if_pos (le_y tl0 rfl hm), if_pos q2, inM_y h hs4, decide_eq_false q3, bd_s, if_bI, bt_f]
        · refine Q2.same (r := -13) h ?_ ?_
          · rw [x0, if_neg hm', if_neg q2, bd_s, if_neg (by decide)]
          · show f_M_item S _ _ _ = _
            rw [m0, if_pos (le_y tl0 rfl hm), if_neg q2]
    · refine Q2.same (r := -1) h ?_ ?_
      · unfold f_X_item
        rw [(sh_y q).1, bd_s, if_neg (by decide), sort_n q1, bd_s, if_pos rfl]
      · show f_M_item S _ _ _ = _
        unfold f_M_item
        rw [(sh_y q).2.2.1, bd_s, if_neg (by decide), in_n tl0 tl4 q1, bd_s, if_pos rfl]
  · refine Q2.same (r := -1) h ?_ ?_
    · unfold f_X_item
      rw [(sh_n q).1, bd_s, if_pos rfl]
    · show f_M_item S _ _ _ = _
      unfold f_M_item
      rw [(sh_n q).2.2.1, bd_s, if_pos rfl]
end
