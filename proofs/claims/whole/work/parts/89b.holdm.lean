/-! The model's clause: what its codes leave on the pile. -/
def vOk (x : Int32) : Prop := ∃ t : Nat, x = iN t ∧ (t < 10000 ∨ (10000 ≤ t ∧ t < 10006))
section
variable {k : cx} {S S1 S2 T : hs} {m : Nat → Int32}
theorem pM_factOf (hT : Tn T m) {x a b w : Nat} (hx : x < 6) (ha : a < 2 * nSt m) (hb : b < 2 * nSt m) : f_M_factOf T (iN x) (iN a) (iN b) (iN w) = some (fcs m a b w x, T) := by
  have hss := hT.1.s.2
  have e0 : gI T 192 0 = iN (nDy m) := (hT.at (by omega)).trans hT.1.d.1
  have : x = 0 ∨ x = 1 ∨ x = 2 ∨ x = 3 ∨ x = 4 ∨ x = 5 := by omega
  unfold f_M_factOf
  rcases this with rfl | rfl | rfl | rfl | rfl | rfl
  · rw [if_pos (by decide), pM_broadOf hT hb, bd_s]; rfl
  · rw [if_neg (by decide), if_pos (by decide), pM_broadOf hT ha, bd_s]; rfl
  · rw [if_neg (by decide), if_neg (by decide), if_pos (by decide), iN_d2 (by omega), pM_longOf hT (half_lt hb), bd_s]; rfl
  · rw [if_neg (by decide), if_neg (by decide), if_neg (by decide), if_pos (by decide), e0]; rfl
  · rw [if_neg (by decide), if_neg (by decide), if_neg (by decide), if_neg (by decide), if_pos (by decide)]; rfl
  · rw [if_neg (by decide), if_neg (by decide), if_neg (by decide), if_neg (by decide), if_neg (by decide), pM_endOf hT ha, bd_s]; rfl
theorem hm_v (hT : Tn T m) {a b w e f h p : Nat} (ha : a < 2 * nSt m) (hb : b < 2 * nSt m) {K : hs → Int32 → Int32 → Option (Int32 × hs)} (hpe : p < e) (he : e ≤ 200) (hh : h < 40) (hv : vOk (m (141 + p))) : lp_M_holds_13 (iN e) (iN a) (iN b) (iN w) K (f + 1) T (iN h) (iN p) = lp_M_holds_13 (iN e) (iN a) (iN b) (iN w) K f (uI T 200 h (vlF (fcs m a b w) (m (141 + p)))) (iN (h + 1)) (iN (p + 1)) := by
  obtain ⟨t, ht, htt⟩ := hv
  have c := hT.at (i := 141 + p) (by omega)
  have e1 : (141 : Int32) + iN p = iN (141 + p) := iN_a 141 p
  rw [lp_M_holds_13, if_neg (fun z => by have := (iN_le (by omega) (by omega)).mp z; omega), e1, ck_of (iN_b (by omega) (by decide)), iN_c (by omega), c, ht, if_neg (le_n (a := 20000) rfl (iN_i (by omega)) (by omega)), iN_1, iN_1]
  rcases htt with q | ⟨q1, q2⟩
  · have v1 : vlF (fcs m a b w) (iN t) = iN t := by
      unfold vlF
      have : iN t - (10000 : Int32) < 0 := by
        have e : (iN t - (10000 : Int32)).toInt = (t : Int) - 10000 := by
          rw [Int32.toInt_sub, iN_i (by omega)]
          have : (10000 : Int32).toInt = 10000 := rfl
          rw [this, Int.bmod_eq_of_le (by omega) (by omega)]
        exact lt_y e tl0 (by omega)
      rw [if_pos this]
    rw [if_neg (le_n (a := 10000) rfl (iN_i (by omega)) (by omega)), ck_of (iN_b hh (by decide)), iN_c (by omega), v1]
  · have e2 : iN t - (10000 : Int32) = iN (t - 10000) := iN_s (b := 10000) (by omega)
    have v1 : vlF (fcs m a b w) (iN t) = fcs m a b w (t - 10000) := by
      unfold vlF
      rw [e2, if_neg (l0 (by omega)), if_neg (le_n (a := 6) rfl (iN_i (by omega)) (by omega)), iN_c (by omega)]
    rw [if_pos (le_y (a := 10000) rfl (iN_i (by omega)) (by omega)), e2, pM_factOf hT (by omega) ha hb, bd_s, ck_of (iN_b hh (by decide)), iN_c (by omega), v1]
theorem hm_n (hT : Tn T m) {a b w e f h p : Nat} {K : hs → Int32 → Int32 → Option (Int32 × hs)} (hpe : p < e) (he : e ≤ 200) (hh : h < 40) (hc : m (141 + p) = 20005) {c : Bool} (hv : gI T 200 h = bI c) : lp_M_holds_13 (iN e) (iN a) (iN b) (iN w) K (f + 1) T (iN (h + 1)) (iN p) = lp_M_holds_13 (iN e) (iN a) (iN b) (iN w) K f (uI T 200 h (bI (!c))) (iN (h + 1)) (iN (p + 1)) := by
  have cc := hT.at (i := 141 + p) (by omega)
  have e1 : (141 : Int32) + iN p = iN (141 + p) := iN_a 141 p
  have e2 : iN (h + 1) - (1 : Int32) = iN h := by
    have : iN (h + 1) - iN 1 = iN (h + 1 - 1) := iN_s (by omega)
    exact this
  rw [lp_M_holds_13, if_neg (fun z => by have := (iN_le (by omega) (by omega)).mp z; omega), e1, ck_of (iN_b (by omega) (by decide)), iN_c (by omega), cc, hc, if_pos (by decide), if_pos rfl, e2, ck_of (iN_b hh (by decide)), iN_c (by omega), hv, iN_1]
  cases c <;> rfl
theorem hm_o (hT : Tn T m) {a b w e f h p : Nat} {K : hs → Int32 → Int32 → Option (Int32 × hs)} (hpe : p < e) (he : e ≤ 200) (hh : h + 1 < 40) {cd : Int32} (hc : m (141 + p) = cd) (hcd : (20000 : Int32) ≤ cd) (hcd2 : cd ≠ 20005) {x y : Int32} (hx : gI T 200 h = x) (hy : gI T 200 (h + 1) = y) {r : Bool} (hd : f_M_did T cd x y = some (bI r, T)) : lp_M_holds_13 (iN e) (iN a) (iN b) (iN w) K (f + 1) T (iN (h + 2)) (iN p) = lp_M_holds_13 (iN e) (iN a) (iN b) (iN w) K f (uI T 200 h (bI r)) (iN (h + 1)) (iN (p + 1)) := by
  have cc := hT.at (i := 141 + p) (by omega)
  have e1 : (141 : Int32) + iN p = iN (141 + p) := iN_a 141 p
  have e2 : iN (h + 2) + (-1 : Int32) = iN (h + 1) := by
    have : iN (h + 2) = iN (h + 1) + 1 := (iN_1 _).symm
    rw [this, Int32.add_assoc]
    exact Int32.add_zero _
  have e3 : iN (h + 1) - (1 : Int32) = iN h := by
    have : iN (h + 1) - iN 1 = iN (h + 1 - 1) := iN_s (by omega)
    exact this
  rw [lp_M_holds_13, if_neg (fun z => by have := (iN_le (by omega) (by omega)).mp z; omega), e1, ck_of (iN_b (by omega) (by decide)), iN_c (by omega), cc, hc, if_pos hcd, if_neg hcd2, e2, e3, ck_of (iN_b (by omega) (by decide)), ck_of (iN_b (by omega) (by decide)), iN_c (by omega), iN_c (by omega), hx, hy, hd, bd_s, if_bI, iN_1]
  cases r <;> rfl
end
