/-! The model's values. -/
def foW (t : Int32) : Int32 := fo (fun a x => if t = wdC (6 + a) then iN a else x) 6 0 (-1)
theorem foW_y : ∀ a, a < 6 → foW (wdC (6 + a)) = iN a ∧ wdC (6 + a) = iN (10000 + a) ∧ wdC (6 + a) < (20000 : Int32) := by decide +kernel
theorem foW_n {t : Int32} (h : ∀ a, a < 6 → t ≠ wdC (6 + a)) : foW t = -1 := by
  unfold foW
  have e : ∀ (r i : Nat) (x : Int32), i + r = 6 → fo (fun a x => if t = wdC (6 + a) then iN a else x) r i x = x := by
    intro r
    induction r with
    | zero => intro i x _; rfl
    | succ r ih =>
      intro i x hi
      show fo _ r (i + 1) (if t = wdC (6 + i) then iN i else x) = x
      rw [if_neg (h i (by omega))]
      exact ih (i + 1) x (by omega)
  exact e 6 0 (-1) rfl
theorem wd_v : ∀ w, w < 17 → (6 ≤ w ∧ w < 12) ∨ (¬ wdC w < (20000 : Int32) ∧ ∀ a, a < 6 → wdC w ≠ wdC (6 + a)) := by decide +kernel
theorem wd_0 : ∀ a, a < 6 → (20000 : Int32) ≠ wdC (6 + a) ∧ (20001 : Int32) ≠ wdC (6 + a) := by decide +kernel
section
variable {k : cx} {S S1 S2 T : hs} {B : Nat → Nat} {n : Nat}
/-- which tokens are values -/
theorem tk_val (hB : ∀ j, j < n → B j < 256) (i : Nat) : (tkc B n i < (20000 : Int32) ∧ ((kdq B n i = 2 ∧ enq B n i - stq B n i ≤ 4 ∧ stq B n i < n ∧ isDg (B (stq B n i)) = true ∧ tkc B n i = iN (nmV B (enq B n i - stq B n i) (stq B n i) 0)) ∨ (kdq B n i = 1 ∧ ∃ a, a < 6 ∧ tkc B n i = wdC (6 + a)))) ∨ (¬ tkc B n i < (20000 : Int32) ∧ (∀ a, a < 6 → tkc B n i ≠ wdC (6 + a)) ∧ kdq B n i ≤ 3 ∧ (kdq B n i = 2 → 4 < enq B n i - stq B n i)) := by
  rcases tk_cases (B := B) (n := n) i with ⟨c1, c2, c3⟩ | ⟨c1, c2, c3, c4⟩ | ⟨c1, c2, c3, c4⟩ | ⟨c1, c2, c3, c4, c5⟩
  · rw [c3]
    exact Or.inr ⟨by decide, fun a ha => (wd_0 a ha).1, by omega, fun z => by omega⟩
  · have hr := fiN_r (fun a => wdM B a (stq B n i) (enq B n i)) 16 0
    have hr : wdF B (stq B n i) (enq B n i) ≤ 16 := by unfold wdF; omega
    rcases wd_v (wdF B (stq B n i) (enq B n i)) (by omega) with ⟨w1, w2⟩ | ⟨w1, w2⟩
    · refine Or.inl ?_
      have e : tkc B n i = wdC (6 + (wdF B (stq B n i) (enq B n i) - 6)) := by rw [c4]; congr 1; omega
      exact ⟨by rw [e]; exact (foW_y _ (by omega)).2.2, Or.inr ⟨c3, _, by omega, e⟩⟩
    · rw [c4]
      exact Or.inr ⟨w1, w2, by omega, fun z => by omega⟩
  · rcases c4 with ⟨d1, d2, d3⟩ | ⟨d1, d2⟩
    · exact Or.inl ⟨by rw [d3]; exact lt_y (b := 20000) (iN_i (by omega)) rfl (by omega), Or.inl ⟨c3, d1, c1, c2, d3⟩⟩
    · rw [d2]
      exact Or.inr ⟨by decide, fun a ha => (wd_0 a ha).2, by omega, fun _ => d1⟩
  · have hb := hB _ c1
    rw [c5]
    refine Or.inr ⟨lt_n (b := 20000) (iN_i (by omega)) rfl (by omega), fun a ha z => ?_, by omega, fun z => by omega⟩
    rw [(foW_y a ha).2.1] at z
    have := (iN_eq (by omega) (by omega)).mp z
    omega
theorem pM_value1 {i : Nat} {C : List Int32} (h : MP S B n i 1 C) : f_M_value S = some (0, S) := by
  unfold f_M_value
  rw [h.2.2.2.1, if_neg (by decide)]
theorem max0 : f_Ma_max S (0 : Int32) (-1 : Int32) = some (0, S) := by
  unfold f_Ma_max
  rw [if_neg (by decide)]
theorem maxA {a : Nat} (ha : a < 6) : f_Ma_max S (0 : Int32) (iN a) = some (iN a, S) := by
  have := pMax (S := S) (a := 0) (b := a) (by omega) (by omega)
  rw [mx0] at this
  exact this
theorem pM_value0 {i : Nat} {C : List Int32} (h : MP S B n i 0 C) (hl : C.length < 200) : (tkc B n i < (20000 : Int32) → ∃ U, f_M_value S = some (0, U) ∧ Fc PmL S U ∧ MP U B n (i + 1) 0 (C ++ [tkc B n i])) ∧ (¬ tkc B n i < (20000 : Int32) → ∃ U, f_M_value S = some (0, U) ∧ Fc PmL S U ∧ MP U B n i 1 (C ++ [10000])) := by
  have hT := h.1
  have hS := h.2.1
  have hK := h.2.2.1
  have h2 := hT.2.1
  have hn := stq_n (B := B) (n := n) i
  have he : enq B n i ≤ n ∧ stq B n i ≤ enq B n i := by
    unfold enq
    by_cases q : stq B n i < n
    · rw [if_pos q]; have := tkE_r (B := B) q; omega
    · rw [if_neg q]; omega
  have w80 : ∀ K : hs → Int32 → Int32 → Option (Int32 × hs), lp_M_value_80 K 1000 S (-1) 0 = K S (foW (tkc B n i)) (iN 6) := fun K => v80_l hT hS hK 6 0 1000 (-1) (by omega) (by omega)
  have e0 : ∀ (K0 K2 : Option (Int32 × hs)), (if gI S 191 9 = 0 then K0 else K2) = K0 := fun K0 K2 => by rw [h.2.2.2.1]; exact if_pos rfl
  rcases tk_val (fun j hj => (hT.2.2 j hj).1) i with ⟨v1, v2⟩ | ⟨v1, v2, v3, v4⟩
  · refine ⟨fun _ => ?_, fun z => absurd v1 z⟩
    rcases v2 with ⟨d1, d2, d3, d4, d5⟩ | ⟨d1, a, d2, d3⟩
    · obtain ⟨V, a1, a2, a3⟩ := pM_tells0 h hl (tkc B n i)
      obtain ⟨U, b1, b2, b3⟩ := pM_mustT a3 (b := 1) (by decide)
      refine ⟨U, ?_, a2.trans b2, b3⟩
      have e1 : enq B n i = tkE B n (stq B n i) := by unfold enq; rw [if_pos d3]
      unfold f_M_value
      rw [e0, hK.2.2, d1, if_pos (show iN 2 = (2 : Int32) from rfl), hK.2.1, hK.1, iN_s he.2, if_neg (lt_n (a := 4) rfl (iN_i (by omega)) (by omega))]
      have := v36_l hT hK.2.1 he.1 (K := fun (S44 : hs) (y45 : Int32) (y46 : Int32) => bd (f_M_tells  S44 y45) fun r47 S48 => bd (f_M_must  S48 (1 : Int32)) fun r50 S51 => some ((0 : Int32), S51)) (enq B n i - stq B n i) (stq B n i) 1000 0 (by omega) (by omega) (fun z h1 h2 => dg_run d3 d4 z h1 (by rw [← e1]; omega)) (Nat.pow_pos (by decide)) d2
      refine Eq.trans this ?_
      show bd (f_M_tells S (iN (nmV B (enq B n i - stq B n i) (stq B n i) 0))) _ = _
      rw [← d5, a1, bd_s, b1, bd_s]
    · obtain ⟨f1, f2, f3⟩ := foW_y a d2
      obtain ⟨V, a1, a2, a3⟩ := pM_tells0 h hl (tkc B n i)
      obtain ⟨U, b1, b2, b3⟩ := pM_mustT a3 (b := 1) (by decide)
      refine ⟨U, ?_, a2.trans b2, b3⟩
      unfold f_M_value
      rw [e0, hK.2.2, d1, if_neg (by decide), w80, d3, f1]
      show bd (f_Ma_max S 0 (iN a)) _ = _
      have e5 : (10000 : Int32) + iN a = tkc B n i := by rw [d3, f2]; exact iN_a 10000 a
      rw [maxA d2, bd_s, e5, a1, bd_s, if_neg (l0 (by omega)), b1, bd_s]
  · refine ⟨fun z => absurd z v1, fun _ => ?_⟩
    have f1 := foW_n v2
    obtain ⟨V, a1, a2, a3⟩ := pM_tells0 h hl 10000
    obtain ⟨U, b1, b2, b3⟩ := pM_mustF a3 (by omega) (b := 0) (Or.inr rfl)
    refine ⟨U, ?_, a2.trans b2, b3⟩
    unfold f_M_value
    rw [e0, hK.2.2]
    by_cases q : kdq B n i = 2
    · have := v4 q
      rw [q, if_pos (show iN 2 = (2 : Int32) from rfl), hK.2.1, hK.1, iN_s he.2, if_pos (lt_y (a := 4) rfl (iN_i (by omega)) (by omega)), w80, f1]
      show bd (f_Ma_max S 0 (-1)) _ = _
      rw [max0, bd_s, show (10000 : Int32) + 0 = 10000 from rfl, a1, bd_s, if_pos (by decide), b1, bd_s]
    · rw [if_neg (show ¬ iN (kdq B n i) = (2 : Int32) from eq_i (b := 2) (by omega) (by decide) q), w80, f1]
      show bd (f_Ma_max S 0 (-1)) _ = _
      rw [max0, bd_s, show (10000 : Int32) + 0 = 10000 from rfl, a1, bd_s, if_pos (by decide), b1, bd_s]
end
