/-! Comparisons in the model. -/
def mcT (S11 : hs) : Option (Int32 × hs) := bd (f_M_isSign  S11 (60 : Int32)) fun r13 S14 => (if r13 = 0 then bd (f_M_isSign  S14 (61 : Int32)) fun r17 S18 => (if r17 = 0 then bd (f_M_isSign  S18 (60 : Int32)) fun r21 S22 => (if r21 = 0 then bd (f_M_isSign  S22 (61 : Int32)) fun r34 S35 => (if r34 = 0 then bd (f_M_isSign  S35 (62 : Int32)) fun r47 S48 => (if r47 = 0 then bd (f_M_must  S48 (0 : Int32)) fun r51 S52 => bd (f_M_value  S52) fun r54 S55 => bd (f_M_tells  S55 (20004 : Int32)) fun r57 S58 => some ((0 : Int32), S58) else bd (f_M_must  S48 (1 : Int32)) fun r60 S61 => bd (f_M_value  S61) fun r63 S64 => bd (f_M_tells  S64 (20004 : Int32)) fun r66 S67 => some ((0 : Int32), S67)) else bd (f_M_must  S35 (1 : Int32)) fun r38 S39 => bd (f_M_value  S39) fun r41 S42 => bd (f_M_tells  S42 (20004 : Int32)) fun r44 S45 => some ((0 : Int32), S45)) else bd (f_M_must  S22 (1 : Int32)) fun r25 S26 => bd (f_M_value  S26) fun r28 S29 => bd (f_M_tells  S29 (20004 : Int32)) fun r31 S32 => some ((0 : Int32), S32)) else bd (f_M_isSign  S18 (60 : Int32)) fun r69 S70 => (if r69 = 0 then bd (f_M_isSign  S70 (61 : Int32)) fun r82 S83 => (if r82 = 0 then bd (f_M_isSign  S83 (62 : Int32)) fun r95 S96 => (if r95 = 0 then bd (f_M_must  S96 (0 : Int32)) fun r99 S100 => bd (f_M_value  S100) fun r102 S103 => bd (f_M_tells  S103 (20003 : Int32)) fun r105 S106 => some ((0 : Int32), S106) else bd (f_M_must  S96 (1 : Int32)) fun r108 S109 => bd (f_M_value  S109) fun r111 S112 => bd (f_M_tells  S112 (20003 : Int32)) fun r114 S115 => some ((0 : Int32), S115)) else bd (f_M_must  S83 (1 : Int32)) fun r86 S87 => bd (f_M_value  S87) fun r89 S90 => bd (f_M_tells  S90 (20003 : Int32)) fun r92 S93 => some ((0 : Int32), S93)) else bd (f_M_must  S70 (1 : Int32)) fun r73 S74 => bd (f_M_value  S74) fun r76 S77 => bd (f_M_tells  S77 (20003 : Int32)) fun r79 S80 => some ((0 : Int32), S80))) else bd (f_M_isSign  S14 (60 : Int32)) fun r117 S118 => (if r117 = 0 then bd (f_M_isSign  S118 (61 : Int32)) fun r130 S131 => (if r130 = 0 then bd (f_M_isSign  S131 (62 : Int32)) fun r143 S144 => (if r143 = 0 then bd (f_M_must  S144 (0 : Int32)) fun r147 S148 => bd (f_M_value  S148) fun r150 S151 => bd (f_M_tells  S151 (20002 : Int32)) fun r153 S154 => some ((0 : Int32), S154) else bd (f_M_must  S144 (1 : Int32)) fun r156 S157 => bd (f_M_value  S157) fun r159 S160 => bd (f_M_tells  S160 (20002 : Int32)) fun r162 S163 => some ((0 : Int32), S163)) else bd (f_M_must  S131 (1 : Int32)) fun r134 S135 => bd (f_M_value  S135) fun r137 S138 => bd (f_M_tells  S138 (20002 : Int32)) fun r140 S141 => some ((0 : Int32), S141)) else bd (f_M_must  S118 (1 : Int32)) fun r121 S122 => bd (f_M_value  S122) fun r124 S125 => bd (f_M_tells  S125 (20002 : Int32)) fun r127 S128 => some ((0 : Int32), S128)))
def mcL (b code : Int32) (S : hs) : Option (Int32 × hs) := bd (f_M_must S b) fun _ S2 => bd (f_M_value S2) fun _ S3 => bd (f_M_tells S3 code) fun _ S4 => some ((0 : Int32), S4)
section
variable {k : cx} {S S1 S2 T : hs} {B : Nat → Nat} {n N : Nat}
theorem mcT_e {s0 s1 s2 : Bool} (h0 : f_M_isSign S (60 : Int32) = some (bI s0, S)) (h1 : f_M_isSign S (61 : Int32) = some (bI s1, S)) (h2 : f_M_isSign S (62 : Int32) = some (bI s2, S)) : mcT S = mcL (bI (s0 || s1 || s2)) (bif s0 then 20002 else bif s1 then 20003 else 20004) S := by
  unfold mcT mcL
  rw [h0, bd_s]
  cases s0 with
  | true =>
    rw [if_neg (by decide), h0, bd_s, if_neg (by decide)]
    rfl
  | false =>
    rw [if_pos (by decide), h1, bd_s]
    cases s1 with
    | true =>
      rw [if_neg (by decide), h0, bd_s, if_pos (by decide), h1, bd_s, if_neg (by decide)]
      rfl
    | false =>
      rw [if_pos (by decide), h0, bd_s, if_pos (by decide), h1, bd_s, if_pos (by decide), h2, bd_s]
      cases s2 with
      | true => rw [if_neg (by decide)]; rfl
      | false => rw [if_pos (by decide)]; rfl
theorem mcL_1 {i : Nat} {C : List Int32} (h : MP S B n i 1 C) (b code : Int32) : ∃ U, mcL b code S = some (0, U) ∧ Fc PmL S U ∧ MP U B n i 1 C := by
  obtain ⟨V, a1, a2, a3⟩ := pM_mustF h (by omega) (b := b) (Or.inl rfl)
  exact ⟨V, by unfold mcL; rw [a1, bd_s, pM_value1 a3, bd_s, pM_tells1 a3, bd_s], a2, a3⟩
theorem mcL_0 {i : Nat} {C : List Int32} (h : MP S B n i 0 C) (code : Int32) : ∃ U, mcL 0 code S = some (0, U) ∧ Fc PmL S U ∧ MP U B n i 1 C := by
  obtain ⟨V, a1, a2, a3⟩ := pM_mustF h (by omega) (b := 0) (Or.inr rfl)
  exact ⟨V, by unfold mcL; rw [a1, bd_s, pM_value1 a3, bd_s, pM_tells1 a3, bd_s], a2, a3⟩
theorem mcL_y {i : Nat} {C : List Int32} (h : MP S B n i 0 C) (hl : C.length + 2 ≤ 200) (code : Int32) : (tkc B n (i + 1) < (20000 : Int32) → ∃ U, mcL 1 code S = some (0, U) ∧ Fc PmL S U ∧ MP U B n (i + 2) 0 (C ++ [tkc B n (i + 1)] ++ [code])) ∧ (¬ tkc B n (i + 1) < (20000 : Int32) → ∃ U C', mcL 1 code S = some (0, U) ∧ Fc PmL S U ∧ MP U B n (i + 1) 1 C') := by
  obtain ⟨V, a1, a2, a3⟩ := pM_mustT h (b := 1) (by decide)
  obtain ⟨g1, g2⟩ := pM_value0 a3 (by omega)
  refine ⟨fun q => ?_, fun q => ?_⟩
  · obtain ⟨W, b1, b2, b3⟩ := g1 q
    obtain ⟨U, c1, c2, c3⟩ := pM_tells0 b3 (by rw [List.length_append]; show C.length + 1 < 200; omega) code
    exact ⟨U, by unfold mcL; rw [a1, bd_s, b1, bd_s, c1, bd_s], (a2.trans b2).trans c2, c3⟩
  · obtain ⟨W, b1, b2, b3⟩ := g2 q
    exact ⟨W, _, by unfold mcL; rw [a1, bd_s, b1, bd_s, pM_tells1 b3, bd_s], a2.trans b2, b3⟩
theorem pM_comp {i : Nat} {C : List Int32} (h : MP S B n i 0 C) (hl : C.length + 3 ≤ 200) : (∀ op, cmO (tkc B n) i = some op → ∃ U, (bd (f_M_value S) fun _ S11 => mcT S11) = some (0, U) ∧ Fc PmL S U ∧ MP U B n (i + 3) 0 (C ++ [tkc B n i] ++ [tkc B n (i + 2)] ++ [iN (20002 + op)])) ∧ (cmO (tkc B n) i = none → ∃ U C', (bd (f_M_value S) fun _ S11 => mcT S11) = some (0, U) ∧ Fc PmL S U ∧ MP U B n (cmF (tkc B n) i) 1 C') := by
  obtain ⟨g1, g2⟩ := pM_value0 h (by omega)
  unfold cmO cmF
  have sg : ∀ {V : hs} {j er : Nat} {D : List Int32}, MP V B n j er D → mcT V = mcL (bI (decide (tkc B n j = 20160) || decide (tkc B n j = 20161) || decide (tkc B n j = 20162))) (bif decide (tkc B n j = 20160) then 20002 else bif decide (tkc B n j = 20161) then 20003 else 20004) V := fun hV =>
    mcT_e (pM_isSign hV.1 (c := 60) (by omega) hV.2.2.1) (pM_isSign hV.1 (c := 61) (by omega) hV.2.2.1) (pM_isSign hV.1 (c := 62) (by omega) hV.2.2.1)
  by_cases q1 : tkc B n i < (20000 : Int32)
  · rw [if_pos q1, if_pos q1]
    obtain ⟨V, a1, a2, a3⟩ := g1 q1
    have hlen : (C ++ [tkc B n i]).length + 2 ≤ 200 := by rw [List.length_append]; show C.length + 1 + 2 ≤ 200; omega
    have st : ∀ (op : Nat) (X : Option Nat), X = (if tkc B n (i + 2) < (20000 : Int32) then some op else none) → mcT V = mcL 1 (iN (20002 + op)) V → (∀ op', X = some op' → ∃ U, (bd (f_M_value S) fun _ S11 => mcT S11) = some (0, U) ∧ Fc PmL S U ∧ MP U B n (i + 3) 0 (C ++ [tkc B n i] ++ [tkc B n (i + 2)] ++ [iN (20002 + op')])) ∧ (X = none → ∃ U C', (bd (f_M_value S) fun _ S11 => mcT S11) = some (0, U) ∧ Fc PmL S U ∧ MP U B n (i + 2) 1 C') := by
      intro op X hX hm
      obtain ⟨k1, k2⟩ := mcL_y a3 hlen (iN (20002 + op))
      by_cases q2 : tkc B n (i + 2) < (20000 : Int32)
      · rw [if_pos q2] at hX
        subst hX
        refine ⟨fun op' z => ?_, fun z => by cases z⟩
        cases z
        obtain ⟨U, b1, b2, b3⟩ := k1 q2
        exact ⟨U, by rw [a1, bd_s, hm]; exact b1, a2.trans b2, b3⟩
      · rw [if_neg q2] at hX
        subst hX
        refine ⟨(fun op' z => by cases z), fun _ => ?_⟩
        obtain ⟨U, C', b1, b2, b3⟩ := k2 q2
        exact ⟨U, C', by rw [a1, bd_s, hm]; exact b1, a2.trans b2, b3⟩
    have sg1 := sg a3
    by_cases r0 : tkc B n (i + 1) = 20160
    · rw [if_pos r0, if_pos (Or.inl r0)]
      refine st 0 _ rfl ?_
      rw [sg1, decide_eq_true r0, Bool.true_or, Bool.true_or]; rfl
    · rw [if_neg r0]
      rw [decide_eq_false r0, Bool.false_or] at sg1
      by_cases r1 : tkc B n (i + 1) = 20161
      · rw [if_pos r1, if_pos (Or.inr (Or.inl r1))]
        refine st 1 _ rfl ?_
        rw [sg1, decide_eq_true r1, Bool.true_or]; rfl
      · rw [if_neg r1]
        rw [decide_eq_false r1, Bool.false_or] at sg1
        by_cases r2 : tkc B n (i + 1) = 20162
        · rw [if_pos r2, if_pos (Or.inr (Or.inr r2))]
          refine st 2 _ rfl ?_
          rw [sg1, decide_eq_true r2]; rfl
        · rw [if_neg r2, if_neg (fun z => z.elim r0 (fun z => z.elim r1 r2))]
          rw [decide_eq_false r2] at sg1
          refine ⟨(fun op z => by cases z), fun _ => ?_⟩
          obtain ⟨U, b1, b2, b3⟩ := mcL_0 a3 20004
          exact ⟨U, _, by rw [a1, bd_s, sg1]; exact b1, a2.trans b2, b3⟩
  · rw [if_neg q1, if_neg q1]
    refine ⟨(fun op z => by cases z), fun _ => ?_⟩
    obtain ⟨V, a1, a2, a3⟩ := g2 q1
    obtain ⟨U, b1, b2, b3⟩ := mcL_1 a3 _ _
    exact ⟨U, _, by rw [a1, bd_s, sg a3]; exact b1, a2.trans b2, b3⟩
end
