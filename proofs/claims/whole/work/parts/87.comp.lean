/-! Comparisons: the class's and the model's. -/
/-- how a comparison at token i ends: op if it is one, and where it fails if not -/
def cmO (t : Nat → Int32) (i : Nat) : Option Nat := if t i < (20000 : Int32) then (if t (i + 1) = 20160 then (if t (i + 2) < (20000 : Int32) then some 0 else none) else if t (i + 1) = 20161 then (if t (i + 2) < (20000 : Int32) then some 1 else none) else if t (i + 1) = 20162 then (if t (i + 2) < (20000 : Int32) then some 2 else none) else none) else none
def cmF (t : Nat → Int32) (i : Nat) : Nat := if t i < (20000 : Int32) then (if t (i + 1) = 20160 ∨ t (i + 1) = 20161 ∨ t (i + 1) = 20162 then i + 2 else i + 1) else i
theorem v_ne {x : Int32} (h : x < (20000 : Int32)) : x ≠ 20000 := fun z => by rw [z] at h; exact absurd h (by decide)
section
variable {k : cx} {S S1 S2 T : hs} {B : Nat → Nat} {n N : Nat}
theorem pR_comp {i : Nat} {L : List (Int32 × Int32 × Int32)} (h : CP S B n N i L) (hL : 2 * L.length ≤ stq B n i) : (∀ op, cmO (tkc B n) i = some op → i + 3 ≤ N ∧ stq B n i + 3 ≤ stq B n (i + 3) ∧ ∃ U, f_R_readComparison S = some (1, U) ∧ Fc PcL S U ∧ CP U B n N (i + 3) (L ++ [(iN op, tkc B n i, tkc B n (i + 2))])) ∧ (cmO (tkc B n) i = none → ∃ U, f_R_readComparison S = some (0, U) ∧ Fc PcL S U ∧ CP U B n N (cmF (tkc B n) i) L) := by
  have e7 := h.2.2.2.2.1
  have n2 := h.1.2.1
  unfold cmO cmF
  by_cases q1 : tkc B n i < (20000 : Int32)
  · rw [if_pos q1, if_pos q1]
    have l1 := h.lt (v_ne q1)
    obtain ⟨U1, a1, a2, a3⟩ := pR_advance h l1
    have f1 := a2.mono pcA
    have e8 := a3.2.2.2.2.1
    have s1 := stq_len (h.2.1.2.2.2 i l1).1
    have go : ∀ (op : Nat), op ≤ 2 → tkc B n (i + 1) = iN (20160 + op) → (tkc B n (i + 2) < (20000 : Int32) → i + 3 ≤ N ∧ stq B n i + 3 ≤ stq B n (i + 3) ∧ ∃ U, f_R_readComparison S = some (1, U) ∧ Fc PcL S U ∧ CP U B n N (i + 3) (L ++ [(iN op, tkc B n i, tkc B n (i + 2))])) ∧ (¬ tkc B n (i + 2) < (20000 : Int32) → ∃ U, f_R_readComparison S = some (0, U) ∧ Fc PcL S U ∧ CP U B n N (i + 2) L) := by
      intro op hop eo
      have l2 := a3.lt (by rw [eo]; exact eq_i (b := 20000) (by omega) (by decide) (by omega))
      obtain ⟨U2, b1, b2, b3⟩ := pR_advance a3 l2
      have f2 := f1.trans (b2.mono pcA)
      have e9 := b3.2.2.2.2.1
      have s2 : enq B n (i + 1) ≤ stq B n (i + 2) ∧ stq B n (i + 1) < enq B n (i + 1) ∧ enq B n (i + 1) ≤ n := stq_len (h.2.1.2.2.2 (i + 1) l2).1
      have hop3 : op = 0 ∨ op = 1 ∨ op = 2 := by omega
      by_cases q2 : tkc B n (i + 2) < (20000 : Int32)
      · refine ⟨fun _ => ?_, fun z => absurd q2 z⟩
        have l3 := b3.lt (v_ne q2)
        obtain ⟨U3, c1, c2, c3⟩ := pR_advance b3 l3
        have s3 : enq B n (i + 2) ≤ stq B n (i + 3) ∧ stq B n (i + 2) < enq B n (i + 2) ∧ enq B n (i + 2) ≤ n := stq_len (h.2.1.2.2.2 (i + 2) l3).1
        obtain ⟨U4, d1, d2, d3⟩ := pA_addStep c3 (by omega) (iN op) (tkc B n i) (tkc B n (i + 2))
        refine ⟨by omega, by omega, U4, ?_, (f2.trans (c2.mono pcA)).trans (d2.mono pcS), d3⟩
        unfold f_R_readComparison
        rw [e7, if_pos q1, a1, bd_s, e8, eo]
        rcases hop3 with rfl | rfl | rfl
        · have d1 : f_A_addStep_129 U3 0 (tkc B n i) (tkc B n (i + 2)) = some (0, U4) := d1
          rw [if_pos (by decide), b1, bd_s, e9, if_pos q2, c1, bd_s, if_pos (by decide), d1, bd_s]
        · have d1 : f_A_addStep_129 U3 1 (tkc B n i) (tkc B n (i + 2)) = some (0, U4) := d1
          rw [if_neg (by decide), if_pos (by decide), b1, bd_s, e9, if_pos q2, c1, bd_s, if_neg (by decide), if_pos (by decide), d1, bd_s]
        · have d1 : f_A_addStep_129 U3 2 (tkc B n i) (tkc B n (i + 2)) = some (0, U4) := d1
          rw [if_neg (by decide), if_neg (by decide), if_pos (by decide), b1, bd_s, e9, if_pos q2, c1, bd_s, if_neg (by decide), if_neg (by decide), d1, bd_s]
      · refine ⟨fun z => absurd z q2, fun _ => ⟨U2, ?_, f2, b3⟩⟩
        unfold f_R_readComparison
        rw [e7, if_pos q1, a1, bd_s, e8, eo]
        rcases hop3 with rfl | rfl | rfl
        · rw [if_pos (by decide), b1, bd_s, e9, if_neg q2]
        · rw [if_neg (by decide), if_pos (by decide), b1, bd_s, e9, if_neg q2]
        · rw [if_neg (by decide), if_neg (by decide), if_pos (by decide), b1, bd_s, e9, if_neg q2]
    have fin : ∀ (op : Nat) (X : Option Nat), X = (if tkc B n (i + 2) < (20000 : Int32) then some op else none) → op ≤ 2 → tkc B n (i + 1) = iN (20160 + op) → (∀ op', X = some op' → i + 3 ≤ N ∧ stq B n i + 3 ≤ stq B n (i + 3) ∧ ∃ U, f_R_readComparison S = some (1, U) ∧ Fc PcL S U ∧ CP U B n N (i + 3) (L ++ [(iN op', tkc B n i, tkc B n (i + 2))])) ∧ (X = none → ∃ U, f_R_readComparison S = some (0, U) ∧ Fc PcL S U ∧ CP U B n N (i + 2) L) := by
      intro op X hX hop eo
      obtain ⟨g1, g2⟩ := go op hop eo
      by_cases q2 : tkc B n (i + 2) < (20000 : Int32)
      · rw [if_pos q2] at hX
        subst hX
        exact ⟨fun op' z => by cases z; exact g1 q2, fun z => by cases z⟩
      · rw [if_neg q2] at hX
        subst hX
        exact ⟨(fun op' z => by cases z), fun _ => g2 q2⟩
    by_cases r0 : tkc B n (i + 1) = 20160
    · rw [if_pos r0, if_pos (Or.inl r0)]
      exact fin 0 _ rfl (by omega) r0
    · rw [if_neg r0]
      by_cases r1 : tkc B n (i + 1) = 20161
      · rw [if_pos r1, if_pos (Or.inr (Or.inl r1))]
        exact fin 1 _ rfl (by omega) r1
      · rw [if_neg r1]
        by_cases r2 : tkc B n (i + 1) = 20162
        · rw [if_pos r2, if_pos (Or.inr (Or.inr r2))]
          exact fin 2 _ rfl (by omega) r2
        · rw [if_neg r2, if_neg (fun z => z.elim r0 (fun z => z.elim r1 r2))]
          refine ⟨(fun op z => by cases z), fun _ => ⟨U1, ?_, f1, a3⟩⟩
          unfold f_R_readComparison
          rw [e7, if_pos q1, a1, bd_s, e8, if_neg r0, if_neg r1, if_neg r2]
  · rw [if_neg q1, if_neg q1]
    refine ⟨(fun op z => by cases z), fun _ => ⟨S, ?_, Fc.rfl', h⟩⟩
    unfold f_R_readComparison
    rw [e7, if_neg q1]
end
