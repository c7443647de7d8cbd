/-! The model's questions of the town; turns, on both sides. -/
section
variable {S : hs} {m : Nat → Int32}
theorem iN_ml (k i : Nat) {K : Int32} (h : K = iN k) : K * iN i = iN (k * i) := by rw [h, iN_m]
theorem pM_xOf (h : Tn S m) {i : Nat} (hi : i < nCr m) : f_M_xOf S (iN i) = some (iN (qX m i), S) := by
  have hc := h.1.c.2
  unfold f_M_xOf
  have e : (5 : Int32) + (2 : Int32) * iN i = iN (5 + 2 * i) := by show iN 5 + iN 2 * iN i = _; rw [iN_m, iN_a]
  rw [e, ck_of (iN_b (by omega) (by decide)), iN_c (by omega), h.at (by omega), (h.1.x hi).1.1]
theorem pM_yOf (h : Tn S m) {i : Nat} (hi : i < nCr m) : f_M_yOf S (iN i) = some (iN (qY m i), S) := by
  have hc := h.1.c.2
  unfold f_M_yOf
  have e : (5 : Int32) + (2 : Int32) * iN i + (1 : Int32) = iN (6 + 2 * i) := by
    show iN 5 + iN 2 * iN i + iN 1 = _
    rw [iN_m, iN_a, iN_a]; congr 1; omega
  rw [e, ck_of (iN_b (by omega) (by decide)), iN_c (by omega), h.at (by omega), (h.1.x hi).2.1]
theorem pM_streetIs (h : Tn S m) {j f : Nat} (hj : j < 20) (hf : f < 5) : f_M_streetIs S (iN j) (iN f) = some (m (29 + 5 * j + f), S) := by
  unfold f_M_streetIs
  have e : (29 : Int32) + (5 : Int32) * iN j + iN f = iN (29 + 5 * j + f) := by
    show iN 29 + iN 5 * iN j + iN f = _
    rw [iN_m, iN_a, iN_a]
  rw [e, ck_of (iN_b (by omega) (by decide)), iN_c (by omega), h.at (by omega)]
theorem sI_0 (h : Tn S m) {j : Nat} (hj : j < nSt m) : f_M_streetIs S (iN j) (0 : Int32) = some (iN (qA m j), S) := by
  have hs := h.1.s.2
  rw [← (h.1.e hj).1.1]; exact pM_streetIs (f := 0) h (by omega) (by omega)
theorem sI_1 (h : Tn S m) {j : Nat} (hj : j < nSt m) : f_M_streetIs S (iN j) (1 : Int32) = some (iN (qB m j), S) := by
  have hs := h.1.s.2
  have e : m (30 + 5 * j) = m (29 + 5 * j + 1) := by congr 1; omega
  rw [← (h.1.e hj).2.1.1, e]; exact pM_streetIs (f := 1) h (by omega) (by omega)
theorem sI_2 (h : Tn S m) {j : Nat} (hj : j < nSt m) : f_M_streetIs S (iN j) (2 : Int32) = some (iN (qW m j), S) := by
  have hs := h.1.s.2
  have e : m (31 + 5 * j) = m (29 + 5 * j + 2) := by congr 1; omega
  rw [← (h.1.e hj).2.2.2.1.1, e]; exact pM_streetIs (f := 2) h (by omega) (by omega)
theorem sI_3 (h : Tn S m) {j : Nat} (hj : j < nSt m) : f_M_streetIs S (iN j) (3 : Int32) = some (iN (qO m j), S) := by
  have hs := h.1.s.2
  have e : m (32 + 5 * j) = m (29 + 5 * j + 3) := by congr 1; omega
  rw [← (h.1.e hj).2.2.2.2.1.1, e]; exact pM_streetIs (f := 3) h (by omega) (by omega)
theorem sI_4 (h : Tn S m) {j : Nat} (hj : j < nSt m) : f_M_streetIs S (iN j) (4 : Int32) = some (iN (qH m j), S) := by
  have hs := h.1.s.2
  have e : m (33 + 5 * j) = m (29 + 5 * j + 4) := by congr 1; omega
  rw [← (h.1.e hj).2.2.2.2.2.1, e]; exact pM_streetIs (f := 4) h (by omega) (by omega)
theorem pM_isCourse (h : Tn S m) (x : Int32) : f_M_isCourse S x = some (bI (cIx m x), S) := by
  have hs := h.1.s.2
  unfold f_M_isCourse
  have z0 : (0 : Int32).toInt = 0 := rfl
  by_cases h0 : 0 ≤ x.toInt
  · obtain ⟨u, rfl, hu, e⟩ := iN_of h0
    rw [if_neg (lt_n rfl z0 h0), cIx_n hu, iN_d2 hu, h.s]
    unfold cIs wIs
    by_cases h1 : u / 2 < nSt m
    · rw [if_neg (le_n (iN_i (by omega)) (iN_i (by omega)) (by omega)), sI_4 h h1, bd_s, if_z (by have := (h.1.e h1).2.2.2.2.2.2; omega), decide_eq_true h1, Bool.true_and]
      by_cases h3 : qH m (u / 2) = 0
      · rw [if_pos h3, decide_eq_true h3, Bool.and_true]
        have e2 : iN u - iN (u / 2) * (2 : Int32) = iN (u % 2) := by rw [← iN_d2 hu]; exact iN_r2 hu
        rw [e2]
        by_cases h2 : u % 2 = 0
        · rw [h2, if_pos (by decide)]; rfl
        · rw [show u % 2 = 1 by omega, if_neg (by decide), sI_3 h h1, bd_s, if_z (by have := (h.1.e h1).2.2.2.2.1.2; omega)]
          by_cases h4 : qO m (u / 2) = 0
          · rw [if_pos h4, decide_eq_true h4]; rfl
          · rw [if_neg h4, decide_eq_false h4]; rfl
      · rw [if_neg h3, decide_eq_false h3, Bool.and_false]; rfl
    · rw [if_pos (le_y (iN_i (by omega)) (iN_i (by omega)) (by omega)), decide_eq_false h1]; rfl
  · rw [if_pos (lt_y rfl z0 (by omega))]
    unfold cIx
    rw [decide_eq_false h0]; rfl
theorem pM_endOf (h : Tn S m) {u : Nat} (hu : u < 2 * nSt m) : f_M_endOf S (iN u) = some (iN (enn m u), S) := by
  have hs := h.1.s.2
  unfold f_M_endOf enn
  rw [iN_r2 (by omega), iN_d2 (by omega), sI_0 h (half_lt hu), sI_1 h (half_lt hu), bd_s, bd_s]
  by_cases h2 : u % 2 = 0
  · rw [h2, if_pos (by decide), if_pos rfl]
  · rw [show u % 2 = 1 by omega, if_neg (by decide), if_neg (by decide)]
theorem pM_beginOf (h : Tn S m) {u : Nat} (hu : u < 2 * nSt m) : f_M_beginOf S (iN u) = some (iN (bgn m u), S) := by
  have hs := h.1.s.2
  unfold f_M_beginOf bgn
  rw [iN_r2 (by omega), iN_d2 (by omega), sI_0 h (half_lt hu), sI_1 h (half_lt hu), bd_s, bd_s]
  by_cases h2 : u % 2 = 0
  · rw [h2, if_pos (by decide), if_pos rfl]
  · rw [show u % 2 = 1 by omega, if_neg (by decide), if_neg (by decide)]
theorem pM_broadOf (h : Tn S m) {u : Nat} (hu : u < 2 * nSt m) : f_M_broadOf S (iN u) = some (iN (qW m (u / 2)), S) := by
  have hs := h.1.s.2
  unfold f_M_broadOf
  rw [iN_d2 (by omega), sI_2 h (half_lt hu), bd_s]
theorem abs_d (a b : Nat) (ha : a ≤ 9) (hb : b ≤ 9) : f_Ma_abs S (iN a - iN b) = some (iN (dst a b), S) := by
  have h1 : ∀ a : Nat, a < 10 → ∀ b : Nat, b < 10 → (if (0 : Int32) ≤ iN a - iN b then iN a - iN b else -(iN a - iN b)) = iN (dst a b) := by decide +kernel
  have h2 := h1 a (by omega) b (by omega)
  unfold f_Ma_abs
  rw [← h2]
  split <;> rfl
theorem dst_c (a b : Nat) : dst a b = dst b a := by unfold dst; omega
theorem dst_l {a b : Nat} (ha : a ≤ 9) (hb : b ≤ 9) : dst a b ≤ 9 := by unfold dst; omega
theorem dst_z {a b : Nat} (h : dst a b = 0) : a = b := by unfold dst at h; omega
theorem enn_lt (v : VM m) {u : Nat} (hu : u < 2 * nSt m) : enn m u < nCr m := by
  unfold enn
  have h := v.e (half_lt hu)
  split
  · exact h.2.1.2
  · exact h.1.2
theorem bgn_lt (v : VM m) {u : Nat} (hu : u < 2 * nSt m) : bgn m u < nCr m := by
  unfold bgn
  have h := v.e (half_lt hu)
  split
  · exact h.1.2
  · exact h.2.1.2
theorem be_ne (v : VM m) {u : Nat} (hu : u < 2 * nSt m) : bgn m u ≠ enn m u := by
  unfold bgn enn
  have h := (v.e (half_lt hu)).2.2.1
  split
  · exact h
  · exact h.symm
theorem qL_le (v : VM m) {j : Nat} (hj : j < nSt m) : 1 ≤ qL m j ∧ qL m j ≤ 18 := by
  have h := v.e hj
  have a := v.x h.1.2
  have b := v.x h.2.1.2
  unfold qL
  have d1 := dst_l a.1.2 b.1.2
  have d2 := dst_l a.2.2 b.2.2
  refine ⟨?_, by omega⟩
  by_cases q1 : dst (qX m (qA m j)) (qX m (qB m j)) = 0
  · by_cases q2 : dst (qY m (qA m j)) (qY m (qB m j)) = 0
    · exact absurd (v.u h.1.2 h.2.1.2 (dst_z q1) (dst_z q2)) h.2.2.1
    · omega
  · omega
theorem pM_longOf (h : Tn S m) {j : Nat} (hj : j < nSt m) : f_M_longOf S (iN j) = some (iN (qL m j), S) := by
  have e := h.1.e hj
  have a := h.1.x e.1.2
  have b := h.1.x e.2.1.2
  unfold f_M_longOf
  rw [sI_0 h hj, bd_s, sI_1 h hj, bd_s, pM_xOf h e.1.2, bd_s, pM_xOf h e.2.1.2, bd_s, abs_d _ _ a.1.2 b.1.2, bd_s, pM_yOf h e.1.2, bd_s, pM_yOf h e.2.1.2, bd_s, abs_d _ _ a.2.2 b.2.2, bd_s, iN_a]
  rfl
/-- arrows, kinds -/
def aX (m : Nat → Int32) (u : Nat) : Int32 := iN (qX m (enn m u)) - iN (qX m (bgn m u))
def aY (m : Nat → Int32) (u : Nat) : Int32 := iN (qY m (enn m u)) - iN (qY m (bgn m u))
def kdI (a b c d : Int32) : Nat := if a * d - b * c = 0 then (if a * c + b * d ≤ 0 then 5 else 1) else (if 0 ≤ a * d - b * c then (if 0 ≤ a * c + b * d then 2 else 3) else 4)
def kq (m : Nat → Int32) (u v : Nat) : Nat := kdI (aX m u) (aY m u) (aX m v) (aY m v)
theorem kdI_r (a b c d : Int32) : 1 ≤ kdI a b c d ∧ kdI a b c d ≤ 5 := by
  unfold kdI; split <;> split <;> (try split) <;> omega
theorem kq_r (u v : Nat) : 1 ≤ kq m u v ∧ kq m u v ≤ 5 := kdI_r _ _ _ _
theorem pT_arrow0 (h : Tc S m) {u : Nat} (hu : u < 2 * nSt m) : f_T_arrowOf S (iN u) (0 : Int32) = some (aX m u, S) := by
  have hs := h.1.s.2
  unfold f_T_arrowOf aX enn bgn
  rw [iN_sh (by omega), hs_at h (half_lt hu), bd_s, if_neg (by decide), ck_of (iN_b (by omega) (by decide)), iN_c (by omega), ck_of (by decide), iN_an (by omega), show ((6 : Int32) + 0).toNatClampNeg = 6 by decide, (h.e (half_lt hu)).2.2.2.2.2.2.1]
  by_cases h2 : u % 2 = 0
  · rw [h2, if_pos (by decide), if_pos rfl, if_pos rfl]
  · rw [show u % 2 = 1 by omega, if_neg (by decide), if_neg (by decide), if_neg (by decide), Int32.neg_sub]
theorem pT_arrow1 (h : Tc S m) {u : Nat} (hu : u < 2 * nSt m) : f_T_arrowOf S (iN u) (1 : Int32) = some (aY m u, S) := by
  have hs := h.1.s.2
  unfold f_T_arrowOf aY enn bgn
  rw [iN_sh (by omega), hs_at h (half_lt hu), bd_s, if_neg (by decide), ck_of (iN_b (by omega) (by decide)), iN_c (by omega), ck_of (by decide), iN_an (by omega), show ((6 : Int32) + 1).toNatClampNeg = 7 by decide, (h.e (half_lt hu)).2.2.2.2.2.2.2]
  by_cases h2 : u % 2 = 0
  · rw [h2, if_pos (by decide), if_pos rfl, if_pos rfl]
  · rw [show u % 2 = 1 by omega, if_neg (by decide), if_neg (by decide), if_neg (by decide), Int32.neg_sub]
theorem kd_c {a b c d : Int32} : (if (a * d) - (b * c) ≤ 0 then (if 0 ≤ ((a * d) - (b * c)) then (if ((a * c) + (b * d)) ≤ 0 then some ((5 : Int32), S) else some ((1 : Int32), S)) else some ((4 : Int32), S)) else (if 0 ≤ ((a * c) + (b * d)) then some ((2 : Int32), S) else some ((3 : Int32), S))) = some (iN (kdI a b c d), S) := by
  unfold kdI
  have z0 : (0 : Int32).toInt = 0 := rfl
  generalize a * d - b * c = z
  generalize a * c + b * d = p
  by_cases h1 : z.toInt ≤ 0
  · rw [if_pos (le_y rfl z0 h1)]
    by_cases h2 : 0 ≤ z.toInt
    · have hz : z = 0 := Int32.toInt_inj.mp (by rw [z0]; omega)
      rw [if_pos (le_y z0 rfl h2), if_pos hz]
      split <;> rfl
    · have hz : ¬ z = 0 := fun q => by rw [q, z0] at h2; omega
      rw [if_neg (le_n z0 rfl (by omega)), if_neg hz, if_neg (le_n z0 rfl (by omega))]; rfl
  · have hz : ¬ z = 0 := fun q => by rw [q, z0] at h1; omega
    rw [if_neg (show ¬ z ≤ 0 from le_n rfl z0 (by omega)), if_neg hz, if_pos (show (0 : Int32) ≤ z from le_y z0 rfl (by omega))]
    split <;> rfl
theorem kd_m {a b c d : Int32} : (if (a * d) - (b * c) = 0 then (if ((a * c) + (b * d)) ≤ 0 then some ((5 : Int32), S) else some ((1 : Int32), S)) else (if 0 ≤ ((a * d) - (b * c)) then (if 0 ≤ ((a * c) + (b * d)) then some ((2 : Int32), S) else some ((3 : Int32), S)) else some ((4 : Int32), S))) = some (iN (kdI a b c d), S) := by
  unfold kdI
  split
  · split <;> rfl
  · split
    · split <;> rfl
    · rfl
/-- the turn from a way to another one: its kind, 0 if there is none -/
def wkd (m : Nat → Int32) (u v : Nat) : Nat := if wIs m u = true ∧ wIs m v = true ∧ enn m u = bgn m v then kq m u v else 0
def ckd (m : Nat → Int32) (u v : Nat) : Nat := if cIs m u = true ∧ cIs m v = true ∧ enn m u = bgn m v then kq m u v else 0
theorem wkd_l (u v : Nat) : wkd m u v ≤ 5 := by
  unfold wkd; split
  · exact (kq_r u v).2
  · omega
theorem ckd_l (u v : Nat) : ckd m u v ≤ 5 := by
  unfold ckd; split
  · exact (kq_r u v).2
  · omega
theorem ckd_w {u v : Nat} (h : ¬ ckd m u v = 0) : wkd m u v = ckd m u v ∧ cIs m u = true ∧ cIs m v = true ∧ enn m u = bgn m v := by
  unfold ckd at h
  unfold wkd ckd
  by_cases q : cIs m u = true ∧ cIs m v = true ∧ enn m u = bgn m v
  · rw [if_pos q, if_pos ⟨cIs_w q.1, cIs_w q.2.1, q.2.2⟩]; exact ⟨rfl, q⟩
  · rw [if_neg q] at h; exact absurd rfl h
theorem pT_kindOf (h : Tc S m) {u v : Nat} (hu : u < 2 * nSt m) (hv : v < 2 * nSt m) : f_T_kindOf S (iN u) (iN v) = some (if wkd m u v = 0 then (-1 : Int32) else iN (wkd m u v), S) := by
  have hs := h.1.s.2
  have hc := h.1.c.2
  have hb := bgn_lt h.1 hv
  have he := enn_lt h.1 hu
  unfold f_T_kindOf
  rw [pT_hasWay h, bd_s, if_bI, pT_hasWay h, bd_s, if_bI, wIx_n (by omega), wIx_n (by omega)]
  cases h1 : wIs m u with
  | false => rw [bt_f, show wkd m u v = 0 from if_neg (fun q => by rw [h1] at q; exact absurd q.1 (by decide))]; rfl
  | true =>
    rw [bt_t]
    cases h2 : wIs m v with
    | false => rw [bt_f, show wkd m u v = 0 from if_neg (fun q => by rw [h2] at q; exact absurd q.2.1 (by decide))]; rfl
    | true =>
      rw [bt_t, pT_endOf h hu, bd_s, pT_beginOf h hv, bd_s]
      by_cases h3 : enn m u = bgn m v
      · rw [if_pos ((iN_eq (by omega) (by omega)).mpr h3), pT_arrow0 h hu, bd_s, pT_arrow1 h hu, bd_s, pT_arrow0 h hv, bd_s, pT_arrow1 h hv, bd_s, kd_c]
        have e : wkd m u v = kq m u v := if_pos ⟨h1, h2, h3⟩
        have r := kq_r (m := m) u v
        rw [e, if_neg (by omega)]; rfl
      · rw [if_neg (fun q => by exact h3 ((iN_eq (by omega) (by omega)).mp q)), show wkd m u v = 0 from if_neg (fun q => h3 q.2.2)]; rfl
/-- a turn by any two numbers -/
def tkd (m : Nat → Int32) (x y : Int32) : Nat := if cIx m x = true ∧ cIx m y = true then ckd m x.toNatClampNeg y.toNatClampNeg else 0
theorem tkd_n {u v : Nat} (hu : u < 2147483648) (hv : v < 2147483648) : tkd m (iN u) (iN v) = ckd m u v := by
  unfold tkd
  rw [cIx_n hu, cIx_n hv, iN_c hu, iN_c hv]
  by_cases q : cIs m u = true ∧ cIs m v = true
  · rw [if_pos q]
  · rw [if_neg q]
    exact (if_neg (fun z => q ⟨z.1, z.2.1⟩)).symm
theorem tkd_l (x y : Int32) : tkd m x y ≤ 5 := by
  unfold tkd; split
  · exact ckd_l _ _
  · omega
theorem pT_turnNow (h : Tc S m) (x y : Int32) : f_T_turnNow S x y = some (if tkd m x y = 0 then (-1 : Int32) else iN (tkd m x y), S) := by
  have hs := h.1.s.2
  unfold f_T_turnNow
  rw [pT_hasCourse h, bd_s, if_bI, pT_hasCourse h, bd_s, if_bI]
  cases h1 : cIx m x with
  | false => rw [bt_f, show tkd m x y = 0 from if_neg (fun q => by rw [h1] at q; exact absurd q.1 (by decide))]; rfl
  | true =>
    rw [bt_t]
    cases h2 : cIx m y with
    | false => rw [bt_f, show tkd m x y = 0 from if_neg (fun q => by rw [h2] at q; exact absurd q.2 (by decide))]; rfl
    | true =>
      rw [bt_t]
      obtain ⟨u, rfl, cu, hu, -⟩ := cIx_e h.1 h1
      obtain ⟨v, rfl, cv, hv, -⟩ := cIx_e h.1 h2
      rw [pT_kindOf h hu hv, bd_s, tkd_n (by omega) (by omega)]
      have e : wkd m u v = ckd m u v := by
        unfold wkd ckd
        rw [cIs_w cu, cIs_w cv, cu, cv]
      rw [e]
theorem pM_kindOf (h : Tn S m) (x y : Int32) : f_M_kindOf S x y = some (iN (tkd m x y), S) := by
  have hs := h.1.s.2
  have hc := h.1.c.2
  unfold f_M_kindOf
  rw [pM_isCourse h, bd_s, if_bI, pM_isCourse h, bd_s, if_bI]
  cases h1 : cIx m x with
  | false => rw [bt_f, show tkd m x y = 0 from if_neg (fun q => by rw [h1] at q; exact absurd q.1 (by decide))]; rfl
  | true =>
    rw [bt_t]
    cases h2 : cIx m y with
    | false => rw [bt_f, show tkd m x y = 0 from if_neg (fun q => by rw [h2] at q; exact absurd q.2 (by decide))]; rfl
    | true =>
      rw [bt_t]
      obtain ⟨u, rfl, cu, hu, -⟩ := cIx_e h.1 h1
      obtain ⟨v, rfl, cv, hv, -⟩ := cIx_e h.1 h2
      have be := enn_lt h.1 hu
      have bb := bgn_lt h.1 hu
      have ce := enn_lt h.1 hv
      have cb := bgn_lt h.1 hv
      rw [pM_endOf h hu, bd_s, pM_beginOf h hv, bd_s, tkd_n (by omega) (by omega)]
      by_cases h3 : enn m u = bgn m v
      · rw [if_pos ((iN_eq (by omega) (by omega)).mpr h3)]
        rw [pM_endOf h hu, bd_s, pM_xOf h be, bd_s, pM_beginOf h hu, bd_s, pM_xOf h bb, bd_s, pM_endOf h hu, bd_s, pM_yOf h be, bd_s, pM_beginOf h hu, bd_s, pM_yOf h bb, bd_s, pM_endOf h hv, bd_s, pM_xOf h ce, bd_s, pM_beginOf h hv, bd_s, pM_xOf h cb, bd_s, pM_endOf h hv, bd_s, pM_yOf h ce, bd_s, pM_beginOf h hv, bd_s, pM_yOf h cb, bd_s]
        rw [kd_m, show ckd m u v = kq m u v from if_pos ⟨cu, cv, h3⟩]; rfl
      · rw [if_neg (fun q => by exact h3 ((iN_eq (by omega) (by omega)).mp q)), show ckd m u v = 0 from if_neg (fun q => h3 q.2.2)]; rfl
end
