/-! The class's reader: its place and its steps. -/
/-- while the class reads: at token i of N, L the steps laid -/
def CP (S : hs) (B : Nat → Nat) (n N i : Nat) (L : List (Int32 × Int32 × Int32)) : Prop := TpC S B n ∧ TkC S B n N ∧ i ≤ N ∧ gI S 128 6 = iN i ∧ gI S 128 7 = tkc B n i ∧ gI S 129 6 = iN L.length ∧ L.length ≤ 100 ∧ ∀ j, j < L.length → gI S 132 j = (L.getD j (0, 0, 0)).1 ∧ gI S 133 j = (L.getD j (0, 0, 0)).2.1 ∧ gI S 134 j = (L.getD j (0, 0, 0)).2.2
def PcA (a i : Nat) : Prop := a = 128 ∧ (i = 6 ∨ i = 7)
def PcS (a i : Nat) : Prop := a = 132 ∨ a = 133 ∨ a = 134 ∨ (a = 129 ∧ i = 6)
def PcL (a i : Nat) : Prop := PcA a i ∨ PcS a i
theorem pcA : ∀ a i, PcA a i → PcL a i := fun _ _ z => Or.inl z
theorem pcS : ∀ a i, PcS a i → PcL a i := fun _ _ z => Or.inr z
theorem nPcA {a i : Nat} (h : ¬ (a = 128 ∧ (i = 6 ∨ i = 7))) : ¬ PcA a i := h
theorem nPcS {a i : Nat} (h : a ≠ 132 ∧ a ≠ 133 ∧ a ≠ 134 ∧ ¬ (a = 129 ∧ i = 6)) : ¬ PcS a i := fun z => by unfold PcS at z; omega
theorem getD_ap3 (C : List (Int32 × Int32 × Int32)) (v : Int32 × Int32 × Int32) : ∀ j, j < C.length + 1 → (C ++ [v]).getD j (0, 0, 0) = if j = C.length then v else C.getD j (0, 0, 0) := by
  induction C with
  | nil => intro j hj; have hj : j < 1 := hj; obtain rfl : j = 0 := (by omega); rfl
  | cons c C ih =>
    intro j hj
    cases j with
    | zero => rfl
    | succ j =>
      have hj : j + 1 < C.length + 1 + 1 := hj
      have := ih j (by omega)
      show (C ++ [v]).getD j (0, 0, 0) = if j + 1 = C.length + 1 then v else C.getD j (0, 0, 0)
      rw [this]
      by_cases q : j = C.length
      · rw [if_pos q, if_pos (by omega)]
      · rw [if_neg q, if_neg (by omega)]
section
variable {k : cx} {S S1 S2 T : hs} {B : Nat → Nat} {n N : Nat}
theorem TkC.fc {P : Nat → Nat → Prop} (h : TkC S B n N) (f : Fc P S T) (q : ¬ P 128 5 ∧ (∀ i, ¬ P 136 i) ∧ ∀ i, ¬ P 137 i) : TkC T B n N := ⟨(f.1 _ _ q.1).trans h.1, h.2.1, h.2.2.1, fun j hj => ⟨(h.2.2.2 j hj).1, (f.1 _ _ (q.2.1 j)).trans (h.2.2.2 j hj).2.1, (f.1 _ _ (q.2.2 j)).trans (h.2.2.2 j hj).2.2⟩⟩
theorem tkc_N (h : TkC S B n N) : tkc B n N = 20000 := by
  unfold tkc
  rw [h.2.2.1, if_neg (by omega)]
theorem tkc_j (h : TkC S B n N) {j : Nat} (hj : j < N) : tkc B n j = gI S 136 j := by
  unfold tkc
  rw [if_pos (h.2.2.2 j hj).1, (h.2.2.2 j hj).2.1]
/-- a token that is one is before the end -/
theorem CP.lt {i : Nat} {L : List (Int32 × Int32 × Int32)} (h : CP S B n N i L) (q : tkc B n i ≠ 20000) : i < N := by
  have := h.2.2.1
  rcases Nat.lt_or_ge i N with z | z
  · exact z
  · obtain rfl : i = N := by omega
    exact absurd (tkc_N h.2.1) q
theorem stq_len {i : Nat} (h : stq B n i < n) : enq B n i ≤ stq B n (i + 1) ∧ stq B n i < enq B n i ∧ enq B n i ≤ n := by
  have e : enq B n i = tkE B n (stq B n i) := by unfold enq; rw [if_pos h]
  have := tkE_r (B := B) h
  have hs := spN_q (B := B) (n := n) i
  have := fiN_r (fun y => !decide (B y = 32)) (n - enq B n i) (enq B n i)
  have h3 : enq B n i ≤ spN B n (enq B n i) := by unfold spN; omega
  omega
theorem pR_advance {i : Nat} {L : List (Int32 × Int32 × Int32)} (h : CP S B n N i L) (hi : i < N) : ∃ U, f_R_advance S = some (0, U) ∧ Fc PcA S U ∧ CP U B n N (i + 1) L := by
  obtain ⟨h1, h2, h3, h4, h5, h6, h7, h8⟩ := h
  have n2 := h1.2.1
  have N2 := h2.2.1
  have u6 : gI (uI S 128 6 (iN (i + 1))) 128 6 = iN (i + 1) := gI_us
  have u5 : gI (uI S 128 6 (iN (i + 1))) 128 5 = iN N := (gI_un (by decide)).trans h2.1
  have key : f_R_advance S = some (0, uI (uI S 128 6 (iN (i + 1))) 128 7 (tkc B n (i + 1))) := by
    unfold f_R_advance
    rw [h4, iN_1, u6, u5, if_neg (l0 (by omega))]
    by_cases q : N ≤ i + 1
    · obtain rfl : i + 1 = N := by omega
      rw [if_pos ((iN_le (by omega) (by omega)).mpr q), tkc_N h2]
    · rw [if_neg (fun z => q ((iN_le (by omega) (by omega)).mp z)), if_neg (le_n (a := 200) rfl (iN_i (by omega)) (by omega)), ck_of (iN_b (by omega) (by decide)), iN_c (by omega), tkc_j h2 (by omega), gI_ua (by decide)]
  have f : Fc PcA S (uI (uI S 128 6 (iN (i + 1))) 128 7 (tkc B n (i + 1))) := (Fc.rfl'.uI ⟨rfl, Or.inl rfl⟩).uI ⟨rfl, Or.inr rfl⟩
  refine ⟨_, key, f, h1.fc f (nPcA (by omega)) (fun _ => nPcA (by omega)), h2.fc f ⟨nPcA (by omega), fun _ => nPcA (by omega), fun _ => nPcA (by omega)⟩, by omega, ?_, gI_us, (f.1 _ _ (nPcA (by omega))).trans h6, h7, fun j hj => ?_⟩
  · rw [gI_un (by decide), gI_us]
  · rw [f.1 132 j (nPcA (by omega)), f.1 133 j (nPcA (by omega)), f.1 134 j (nPcA (by omega))]
    exact h8 j hj
theorem pA_addStep {i : Nat} {L : List (Int32 × Int32 × Int32)} (h : CP S B n N i L) (hl : L.length < 100) (a b c : Int32) : ∃ U, f_A_addStep_129 S a b c = some (0, U) ∧ Fc PcS S U ∧ CP U B n N i (L ++ [(a, b, c)]) := by
  obtain ⟨h1, h2, h3, h4, h5, h6, h7, h8⟩ := h
  have u1 : gI (uI S 132 L.length a) 129 6 = iN L.length := (gI_ua (by decide)).trans h6
  have u2 : gI (uI (uI S 132 L.length a) 133 L.length b) 129 6 = iN L.length := (gI_ua (by decide)).trans u1
  have u3 : gI (uI (uI (uI S 132 L.length a) 133 L.length b) 134 L.length c) 129 6 = iN L.length := (gI_ua (by decide)).trans u2
  have key : f_A_addStep_129 S a b c = some (0, uI (uI (uI (uI S 132 L.length a) 133 L.length b) 134 L.length c) 129 6 (iN (L.length + 1))) := by
    unfold f_A_addStep_129
    rw [h6, if_neg (le_n (a := 100) rfl (iN_i (by omega)) (by omega)), iN_c (by omega), u1, iN_c (by omega), u2, iN_c (by omega), u3, ck_of (iN_b hl (by decide)), ck_of (iN_b hl (by decide)), ck_of (iN_b hl (by decide)), iN_1]
  have f : Fc PcS S (uI (uI (uI (uI S 132 L.length a) 133 L.length b) 134 L.length c) 129 6 (iN (L.length + 1))) := (((Fc.rfl'.uI (Or.inl rfl)).uI (Or.inr (Or.inl rfl))).uI (Or.inr (Or.inr (Or.inl rfl)))).uI (Or.inr (Or.inr (Or.inr ⟨rfl, rfl⟩)))
  refine ⟨_, key, f, h1.fc f (nPcS (by omega)) (fun _ => nPcS (by omega)), h2.fc f ⟨nPcS (by omega), fun _ => nPcS (by omega), fun _ => nPcS (by omega)⟩, h3, (f.1 _ _ (nPcS (by omega))).trans h4, (f.1 _ _ (nPcS (by omega))).trans h5, ?_, ?_, fun j hj => ?_⟩
  · rw [gI_us, List.length_append]; rfl
  · rw [List.length_append]; exact hl
  · rw [List.length_append] at hj
    have hj : j < L.length + 1 := hj
    have g2 : gI (uI (uI (uI (uI S 132 L.length a) 133 L.length b) 134 L.length c) 129 6 (iN (L.length + 1))) 132 j = if j = L.length then a else gI S 132 j := by
      rw [gI_ua (by decide), gI_ua (by decide), gI_ua (by decide), gI_u]
      by_cases z : j = L.length
      · rw [if_pos ⟨rfl, z⟩, if_pos z]
      · rw [if_neg (fun y => z y.2), if_neg z]
    have g3 : gI (uI (uI (uI (uI S 132 L.length a) 133 L.length b) 134 L.length c) 129 6 (iN (L.length + 1))) 133 j = if j = L.length then b else gI S 133 j := by
      rw [gI_ua (by decide), gI_ua (by decide), gI_u]
      by_cases z : j = L.length
      · rw [if_pos ⟨rfl, z⟩, if_pos z]
      · rw [if_neg (fun y => z y.2), if_neg z, gI_ua (by decide)]
    have g4 : gI (uI (uI (uI (uI S 132 L.length a) 133 L.length b) 134 L.length c) 129 6 (iN (L.length + 1))) 134 j = if j = L.length then c else gI S 134 j := by
      rw [gI_ua (by decide), gI_u]
      by_cases z : j = L.length
      · rw [if_pos ⟨rfl, z⟩, if_pos z]
      · rw [if_neg (fun y => z y.2), if_neg z, gI_ua (by decide), gI_ua (by decide)]
    rw [g2, g3, g4, getD_ap3 L (a, b, c) j hj]
    by_cases z : j = L.length
    · rw [if_pos z, if_pos z, if_pos z, if_pos z]; exact ⟨rfl, rfl, rfl⟩
    · rw [if_neg z, if_neg z, if_neg z, if_neg z]; exact h8 j (by omega)
end
