/-! What may be gone, as the model tells it. -/
section
variable {S : hs} {m : Nat → Int32}
theorem pM_saysSo_l {l : Lz} (hl : LwM m l) {kd u v w : Nat} (hkd : kd ≤ 5) (hu : u < 2 * nSt m) (hv : v < 2 * nSt m) (hw : w ≤ 9) : ∀ (k i n : Nat) (T : hs), Tn T m → i + k = l.1 → k < n → ∃ U, lp_M_saysSo_6 (iN kd) (iN u) (iN v) (iN w) n T (0 : Int32) (iN i) = some (bI (alwR l kd (fcs m u v w) k i), U) ∧ Fr (fun q => q = 200) T U := by
  obtain ⟨h1, h2, h3⟩ := hl
  intro k
  induction k with
  | zero =>
    intro i n T hT hi hn
    obtain ⟨n, rfl⟩ : ∃ q, n = q + 1 := ⟨n - 1, by omega⟩
    refine ⟨T, ?_, Fr.rfl'⟩
    rw [lp_M_saysSo_6, hT.at (by omega), h1, if_pos ((iN_le (by omega) (by omega)).mpr (by omega))]; rfl
  | succ k ih =>
    intro i n T hT hi hn
    obtain ⟨n, rfl⟩ : ∃ q, n = q + 1 := ⟨n - 1, by omega⟩
    obtain ⟨k1, k2, k3⟩ := h3 i (by omega)
    have e1 : (350 : Int32) + iN i = iN (350 + i) := iN_a 350 i
    have e2 : (341 : Int32) + iN i = iN (341 + i) := iN_a 341 i
    have e3 : iN (341 + i) + (1 : Int32) = iN (342 + i) := by rw [iN_1]; congr 1; omega
    rw [lp_M_saysSo_6, hT.at (by omega), h1, if_neg (fun z => by have := (iN_le (by omega) (by omega)).mp z; omega), if_pos rfl, e1, ck_of (iN_b (by omega) (by decide)), iN_c (by omega), hT.at (by omega), k1, pM_isUnder hkd k2, bd_s, if_bI, iN_1, e2, e3, ck_of (iN_b (by omega) (by decide)), ck_of (iN_b (by omega) (by decide)), iN_c (by omega), iN_c (by omega), hT.at (by omega), hT.at (by omega), alwR]
    cases und kd (l.2.1 i) with
    | false =>
      obtain ⟨U, hU, fU⟩ := ih (i + 1) n T hT (by omega) (by omega)
      exact ⟨U, by rw [bt_f, hU]; rfl, fU⟩
    | true =>
      obtain ⟨V, hV, fV⟩ := k3 T m hT (fun _ _ _ => rfl) u v w hu hv hw
      rw [bt_t, hV, bd_s, if_bI]
      cases l.2.2 i (fcs m u v w) with
      | false =>
        obtain ⟨U, hU, fU⟩ := ih (i + 1) n V (hT.fr fV (by decide)) (by omega) (by omega)
        exact ⟨U, by rw [bt_f, hU]; rfl, fV.trans fU⟩
      | true =>
        obtain ⟨n, rfl⟩ : ∃ q, n = q + 1 := ⟨n - 1, by omega⟩
        refine ⟨V, ?_, fV⟩
        rw [bt_t, lp_M_saysSo_6]
        split
        · rfl
        · rfl
/-- the bits that stand for a law, as the model has them -/
def hbt (b : Int32) (kd : Nat) : Bool := decide ((lg_cmp ((b.toInt64 >>> ((iN kd).toInt64 &&& 63)) &&& (1 : Int64)) (1 : Int64)) = 0)
def mgB (m : Nat → Int32) (b : Int32) (u v : Nat) : Bool := decide (ckd m u v ≠ 0) && hbt b (ckd m u v)
theorem mgC_e {l : Lz} {u v w : Nat} : mgC m l u v w = (decide (ckd m u v ≠ 0) && decide (w ≤ qW m (u / 2)) && decide (w ≤ qW m (v / 2)) && !(decide (ckd m u v = 3) && decide (0 < w)) && alw l (ckd m u v) (fcs m u v w)) := by
  unfold mgC mgW
  by_cases q : ckd m u v = 0
  · have e : decide (ckd m u v ≠ 0) = false := decide_eq_false (fun z => z q)
    rw [e]
    simp only [Bool.false_and]
    cases h1 : cIs m u with
    | false => rfl
    | true =>
      cases h2 : cIs m v with
      | false => rfl
      | true =>
        have : wkd m u v = 0 := by
          unfold wkd
          unfold ckd at q
          rw [h1, h2] at q
          rw [cIs_w h1, cIs_w h2]
          exact q
        rw [this]; rfl
  · obtain ⟨e, h1, h2, -⟩ := ckd_w q
    rw [h1, h2, e]; rfl
set_option maxHeartbeats 2000000 in
theorem pM_mayGo {l : Lz} (h : Tn S m) (hl : LwM m l) (hi : gI S 191 3 = -1) {u v w : Nat} (hu : u < 40) (hv : v < 40) (hw : w ≤ 9) : ∃ U, f_M_mayGo S (iN u) (iN v) (iN w) = some (bI (mgC m l u v w), U) ∧ Fr (fun q => q = 200) S U := by
  have hs := h.1.s.2
  have hk := ckd_l (m := m) u v
  rw [mgC_e]
  unfold f_M_mayGo
  rw [pM_kindOf h, tkd_n (by omega) (by omega), bd_s, if_z (by omega)]
  by_cases q0 : ckd m u v = 0
  · exact ⟨S, by rw [if_pos q0, decide_eq_false (fun z => z q0)]; rfl, Fr.rfl'⟩
  obtain ⟨-, cu, cv, -⟩ := ckd_w q0
  have wu := (h.1.e (half_lt (cIs_lt cu))).2.2.2.1.2
  have wv := (h.1.e (half_lt (cIs_lt cv))).2.2.2.1.2
  rw [if_neg q0, pM_broadOf h (cIs_lt cu), bd_s, decide_eq_true q0, Bool.true_and]
  by_cases q1 : w ≤ qW m (u / 2)
  · rw [if_neg (fun z => by have := (iN_lt (by omega) (by omega)).mp z; omega), pM_broadOf h (cIs_lt cv), bd_s, decide_eq_true q1, Bool.true_and]
    by_cases q2 : w ≤ qW m (v / 2)
    · rw [if_neg (fun z => by have := (iN_lt (by omega) (by omega)).mp z; omega), decide_eq_true q2, Bool.true_and, hi, if_pos (show (-1 : Int32) < 0 by decide), h.at (by omega), hl.1, if_z (lt31 hl.2.1)]
      have go : ∃ U, (if l.1 = 0 then (if (3 : Int32) < iN (ckd m u v) then some ((0 : Int32), S) else some ((1 : Int32), S)) else bd (f_M_saysSo S (iN (ckd m u v)) (iN u) (iN v) (iN w)) fun r28 S29 => ck (isB r28) (some (r28, S29))) = some (bI (alw l (ckd m u v) (fcs m u v w)), U) ∧ Fr (fun q => q = 200) S U := by
        unfold alw
        by_cases q : l.1 = 0
        · rw [if_pos q, if_pos q]
          refine ⟨S, ?_, Fr.rfl'⟩
          by_cases q3 : ckd m u v ≤ 3
          · rw [if_neg (fun z => by have := (iN_lt (a := 3) (by omega) (by omega)).mp z; omega), decide_eq_true q3]; rfl
          · rw [if_pos (show (3 : Int32) < iN (ckd m u v) from (iN_lt (a := 3) (by omega) (by omega)).mpr (by omega)), decide_eq_false q3]; rfl
        · rw [if_neg q, if_neg q]
          obtain ⟨U, hU, fU⟩ := pM_saysSo_l hl hk (cIs_lt cu) (cIs_lt cv) hw l.1 0 1000 S h (by omega) (by have := hl.2.1; omega)
          refine ⟨U, ?_, fU⟩
          rw [show f_M_saysSo S (iN (ckd m u v)) (iN u) (iN v) (iN w) = some (bI (alwR l (ckd m u v) (fcs m u v w) l.1 0), U) from hU, bd_s, ck_of (bI_B _)]
      by_cases q3 : ckd m u v = 3
      · rw [if_pos (show iN (ckd m u v) = 3 by rw [q3]; rfl), decide_eq_true q3, Bool.true_and]
        by_cases q4 : w = 0
        · subst q4
          rw [if_pos (show iN 0 ≤ (0 : Int32) by decide)]
          exact go
        · rw [if_neg (show ¬ iN w ≤ (0 : Int32) from fun z => by have := (iN_le (b := 0) (by omega) (by omega)).mp z; omega), decide_eq_true (show 0 < w by omega)]
          exact ⟨S, rfl, Fr.rfl'⟩
      · rw [if_neg (show ¬ iN (ckd m u v) = 3 from fun z => q3 ((iN_eq (b := 3) (by omega) (by omega)).mp z)), decide_eq_false q3]
        exact go
    · rw [if_pos ((iN_lt (by omega) (by omega)).mpr (by omega)), decide_eq_false q2]
      exact ⟨S, rfl, Fr.rfl'⟩
  · rw [if_pos ((iN_lt (by omega) (by omega)).mpr (by omega)), decide_eq_false q1]
    exact ⟨S, rfl, Fr.rfl'⟩
/-- by bits that stand for a law, on foot -/
theorem pM_mayGoB (h : Tn S m) {b : Int32} (hb : ¬ b < 0) (hi : gI S 191 3 = b) {u v : Nat} (hu : u < 40) (hv : v < 40) : f_M_mayGo S (iN u) (iN v) (0 : Int32) = some (bI (mgB m b u v), S) := by
  have hs := h.1.s.2
  have hk := ckd_l (m := m) u v
  unfold f_M_mayGo mgB
  rw [pM_kindOf h, tkd_n (by omega) (by omega), bd_s, if_z (by omega)]
  by_cases q0 : ckd m u v = 0
  · rw [if_pos q0, decide_eq_false (fun z => z q0)]; rfl
  obtain ⟨-, cu, cv, -⟩ := ckd_w q0
  have wu := (h.1.e (half_lt (cIs_lt cu))).2.2.2.1.2
  have wv := (h.1.e (half_lt (cIs_lt cv))).2.2.2.1.2
  have hB : f_M_hasBit S (b.toInt64) (iN (ckd m u v)) = some (bI (hbt b (ckd m u v)), S) := by
    unfold f_M_hasBit hbt
    split
    · rename_i q; rw [decide_eq_true q]; rfl
    · rename_i q; rw [decide_eq_false q]; rfl
  rw [if_neg q0, pM_broadOf h (cIs_lt cu), bd_s, decide_eq_true q0, Bool.true_and, if_neg (fun z => by have := (iN_lt (b := 0) (by omega) (by omega)).mp z; omega), pM_broadOf h (cIs_lt cv), bd_s, if_neg (fun z => by have := (iN_lt (b := 0) (by omega) (by omega)).mp z; omega), hi, if_neg hb, if_pos (show (0 : Int32) ≤ 0 by decide), hB, bd_s, ck_of (bI_B _)]
  split <;> rfl
end
