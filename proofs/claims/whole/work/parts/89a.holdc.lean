/-! The class's clause holds by what its steps push. -/
theorem le_ct {x y : Int32} (h : ¬ x < 0) (h' : ¬ y ≤ x) : x.toNatClampNeg < y.toNatClampNeg ∧ 0 ≤ x.toInt := by
  have h1 : 0 ≤ x.toInt := by
    rcases Int.lt_or_le x.toInt 0 with w | w
    · exact absurd (lt_y (x := x) rfl tl0 w) h
    · exact w
  have h2 : x.toInt < y.toInt := by
    rcases Int.lt_or_le x.toInt y.toInt with w | w
    · exact w
    · exact absurd (Int32.le_iff_toInt_le.mpr w) h'
  obtain ⟨a, rfl, ha, ea⟩ := iN_of h1
  obtain ⟨b, rfl, hb, eb⟩ := iN_of (show 0 ≤ y.toInt by omega)
  rw [iN_c ha, iN_c hb]
  omega
section
variable {k : cx} {S S1 S2 T : hs}
theorem pA_valueOf (x : Int32) : f_A_valueOf_80 S x = some (vlF (fun i => gI S 80 i) x, S) := by
  unfold f_A_valueOf_80 vlF
  by_cases q : (x - (10000 : Int32)) < 0
  · rw [if_pos q, if_pos q]
  · by_cases q2 : (6 : Int32) ≤ (x - (10000 : Int32))
    · rw [if_neg q, if_pos q2, if_neg q, if_pos q2]
    · have := le_ct q q2
      have b : inb (x - (10000 : Int32)) 6 = true := by
        unfold inb
        have e6 : (6 : Int32).toNatClampNeg = 6 := rfl
        rw [decide_eq_false q, Bool.not_false, Bool.true_and]
        exact Nat.blt_eq.mpr (by omega)
      rw [if_neg q, if_neg q2, if_neg q2, ck_of b, if_neg q, if_neg q2]
theorem pA_compares {x : Nat} (hx : x < 100) : f_A_compares_80 S (iN x) = some (bI (cmV (gI S 77 x) (vlF (fun i => gI S 80 i) (gI S 78 x)) (vlF (fun i => gI S 80 i) (gI S 79 x))), S) := by
  unfold f_A_compares_80 cmV
  rw [ck_of (iN_b hx (by decide)), iN_c (by omega), pA_valueOf, bd_s, pA_valueOf, bd_s]
  generalize vlF (fun i => gI S 80 i) (gI S 78 x) = a
  generalize vlF (fun i => gI S 80 i) (gI S 79 x) = b
  by_cases q : gI S 77 x = 0
  · rw [if_pos q, if_pos q]
    by_cases z : b ≤ a
    · rw [if_pos z, decide_eq_true z]; rfl
    · rw [if_neg z, decide_eq_false z]; rfl
  · rw [if_neg q, if_neg q]
    by_cases q1 : gI S 77 x = 1
    · rw [if_pos q1, if_pos q1]
      by_cases z : a = b
      · rw [if_pos z, decide_eq_true z]; rfl
      · rw [if_neg z, decide_eq_false z]; rfl
    · rw [if_neg q1, if_neg q1]
      by_cases z : a ≤ b
      · rw [if_pos z, decide_eq_true z]; rfl
      · rw [if_neg z, decide_eq_false z]; rfl
/-- the steps from p on are L -/
def StAt (T : hs) (p : Nat) (L : List (Int32 × Int32 × Int32)) : Prop := ∀ j, j < L.length → gI T 77 (p + j) = (L.getD j (0, 0, 0)).1 ∧ gI T 78 (p + j) = (L.getD j (0, 0, 0)).2.1 ∧ gI T 79 (p + j) = (L.getD j (0, 0, 0)).2.2
theorem hc_l {kk e : Nat} (hk : kk < 8) (he : e ≤ 100) (h76 : gI T 76 kk = iN e) {K : hs → Int64 → Int32 → Option (Int32 × hs)} : ∀ (L : List (Int32 × Int32 × Int32)) (p f : Nat) (x : Int64), StAt T p L → p + L.length = e → L.length < f → lp_A_holds_80_20 (iN kk) K f T x (iN p) = K T (evC (fun i => gI T 80 i) x L) (iN e) := by
  intro L
  induction L with
  | nil =>
    intro p f x hS hp hf
    obtain ⟨f, rfl⟩ : ∃ q, f = q + 1 := ⟨f - 1, by omega⟩
    have hp : p = e := hp
    subst hp
    rw [lp_A_holds_80_20, ck_of (iN_b hk (by decide)), iN_c (by omega), h76, if_pos ((iN_le (by omega) (by omega)).mpr (by omega))]; rfl
  | cons s L ih =>
    intro p f x hS hp hf
    obtain ⟨f, rfl⟩ : ∃ q, f = q + 1 := ⟨f - 1, by omega⟩
    have hp : p + (L.length + 1) = e := hp
    have hf : L.length + 1 < f + 1 := hf
    have s0 := hS 0 (Nat.succ_pos _)
    have s1 : gI T 77 p = s.1 := s0.1
    have s2 : gI T 78 p = s.2.1 := s0.2.1
    have s3 : gI T 79 p = s.2.2 := s0.2.2
    have nx : ∀ y, lp_A_holds_80_20 (iN kk) K f T y (iN (p + 1)) = K T (evC (fun i => gI T 80 i) y L) (iN e) := fun y => ih (p + 1) f y (fun j hj => by
      have := hS (j + 1) (by show j + 1 < L.length + 1; omega)
      rw [show p + 1 + j = p + (j + 1) from by omega]; exact this) (by omega) (by omega)
    have ev : evC (fun i => gI T 80 i) x (s :: L) = evC (fun i => gI T 80 i) (stC (fun i => gI T 80 i) x s) L := rfl
    rw [lp_A_holds_80_20, ck_of (iN_b hk (by decide)), iN_c (by omega), h76, if_neg (fun z => by have := (iN_le (by omega) (by omega)).mp z; omega), if_neg (le_n (a := 100) rfl (iN_i (by omega)) (by omega)), ck_of (iN_b (by omega) (by decide)), iN_c (by omega), s1, iN_1, ev]
    unfold stC
    by_cases q3 : s.1 = 3
    · rw [if_pos q3, if_pos q3]; exact nx _
    · rw [if_neg q3, if_neg q3]
      by_cases q4 : s.1 = 4
      · rw [if_pos q4, if_pos q4]; exact nx _
      · rw [if_neg q4, if_neg q4]
        by_cases q5 : s.1 = 5
        · rw [if_pos q5, if_pos q5]; exact nx _
        · rw [if_neg q5, if_neg q5, pA_compares (by omega), bd_s, if_bI, s1, s2, s3]
          cases cmV s.1 (vlF (fun i => gI T 80 i) s.2.1) (vlF (fun i => gI T 80 i) s.2.2) with
          | true => rw [bt_t, if_pos rfl]; exact nx _
          | false => rw [bt_f, if_neg (by decide)]; exact nx _
/-- clause kk holds iff its steps push a one upon the one -/
theorem pA_holds {kk p : Nat} (hk : kk < 8) {L : List (Int32 × Int32 × Int32)} (hS : StAt T p L) (he : p + L.length ≤ 100) (h76 : gI T 76 kk = iN (p + L.length)) (hp : (kk = 0 ∧ p = 0) ∨ (1 ≤ kk ∧ gI T 76 (kk - 1) = iN p)) : f_A_holds_80 T (iN kk) = some (bI (jb (evC (fun i => gI T 80 i) 1 L) 0), T) := by
  have fin : ∀ y : Int64, (if (lg_cmp (y &&& (1 : Int64)) (0 : Int64)) = 0 then some ((0 : Int32), T) else some ((1 : Int32), T)) = some (bI (jb y 0), T) := fun y => by
    have e : y &&& (1 : Int64) = if jb y 0 = true then 1 else 0 := by
      apply jb_ext
      intro i hi
      rw [jb_and, jb_1]
      by_cases z : i = 0
      · subst z
        cases q : jb y 0 <;> simp [q, jb_1, jb_0]
      · cases q : jb y 0 <;> simp [z, jb_1, jb_0]
    rw [e]
    cases jb y 0 <;> rfl
  unfold f_A_holds_80
  rcases hp with ⟨rfl, rfl⟩ | ⟨k1, k2⟩
  · rw [if_pos (show iN 0 = (0 : Int32) from rfl)]
    exact (hc_l (by omega) he h76 L 0 1000 1 hS rfl (by omega)).trans (fin _)
  · have e1 : iN kk - (1 : Int32) = iN (kk - 1) := iN_s (b := 1) (by omega)
    rw [if_neg (ne0 (by omega) (by omega)), e1, ck_of (iN_b (by omega) (by decide)), iN_c (by omega), k2]
    exact (hc_l hk he h76 L p 1000 1 hS rfl (by omega)).trans (fin _)
end
