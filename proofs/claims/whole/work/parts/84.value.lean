/-! The model's reader: what it tells, what it must find, values. -/
/-- while the model reads: at token i, er whether it has failed, C what it has told -/
def MP (S : hs) (B : Nat → Nat) (n i er : Nat) (C : List Int32) : Prop := TpM S B n ∧ IvS S ∧ TkM S B n i ∧ gI S 191 9 = iN er ∧ gI S 191 12 = iN C.length ∧ ∀ j, j < C.length → gI S 195 j = C.getD j 0
def PmL (a i : Nat) : Prop := (a = 191 ∧ (i = 6 ∨ i = 7 ∨ i = 8 ∨ i = 9 ∨ i = 12)) ∨ a = 195
theorem nPl {a i : Nat} (h : ¬ (a = 191 ∧ (i = 6 ∨ i = 7 ∨ i = 8 ∨ i = 9 ∨ i = 12)) ∧ a ≠ 195) : ¬ PmL a i := fun z => z.elim h.1 h.2
theorem pmL : ∀ a i, PmT a i → PmL a i := fun a i z => Or.inl ⟨z.1, by have := z.2; omega⟩
theorem getD_app (C : List Int32) (v : Int32) : ∀ j, j < C.length + 1 → (C ++ [v]).getD j 0 = if j = C.length then v else C.getD j 0 := by
  induction C with
  | nil => intro j hj; have hj : j < 1 := hj; obtain rfl : j = 0 := (by omega); rfl
  | cons c C ih =>
    intro j hj
    cases j with
    | zero => rfl
    | succ j =>
      have hj : j + 1 < C.length + 1 + 1 := hj
      have := ih j (by omega)
      show (C ++ [v]).getD j 0 = if j + 1 = C.length + 1 then v else C.getD j 0
      rw [this]
      by_cases q : j = C.length
      · rw [if_pos q, if_pos (by omega)]
      · rw [if_neg q, if_neg (by omega)]
section
variable {k : cx} {S S1 S2 T : hs} {B : Nat → Nat} {n : Nat}
theorem stq_ge : ∀ i, i ≤ stq B n i ∨ stq B n i = n := by
  intro i
  induction i with
  | zero => exact Or.inl (Nat.zero_le _)
  | succ i ih =>
    show _ ≤ (if stq B n i < n then tkS B n (stq B n i + 1) else n) ∨ (if stq B n i < n then tkS B n (stq B n i + 1) else n) = n
    by_cases q : stq B n i < n
    · rw [if_pos q]
      have := (tkS_r (B := B) (n := n) (p := stq B n i + 1) (by omega)).1
      rcases ih with z | z
      · exact Or.inl (by omega)
      · omega
    · rw [if_neg q]; exact Or.inr rfl
theorem stq_i {i : Nat} (h : stq B n i < n) : i < n := by
  rcases stq_ge (B := B) (n := n) i with z | z <;> omega
theorem TkM.fc {P : Nat → Nat → Prop} {i : Nat} (h : TkM S B n i) (f : Fc P S T) (q : ¬ P 191 6 ∧ ¬ P 191 7 ∧ ¬ P 191 8) : TkM T B n i := ⟨(f.1 _ _ q.1).trans h.1, (f.1 _ _ q.2.1).trans h.2.1, (f.1 _ _ q.2.2).trans h.2.2⟩
theorem pM_tells0 {i : Nat} {C : List Int32} (h : MP S B n i 0 C) (hl : C.length < 200) (v : Int32) : ∃ U, f_M_tells S v = some (0, U) ∧ Fc PmL S U ∧ MP U B n i 0 (C ++ [v]) := by
  obtain ⟨h1, h2, h3, h4, h5, h6⟩ := h
  refine ⟨uI (uI S 195 C.length v) 191 12 (iN (C.length + 1)), ?_, (Fc.rfl'.uI (Or.inr rfl)).uI (Or.inl ⟨rfl, by omega⟩), ?_⟩
  · unfold f_M_tells
    rw [h4, if_pos (show iN 0 = (0 : Int32) from rfl), h5, ck_of (iN_b hl (by decide)), iN_c (by omega), gI_ua (by omega), h5, iN_1]
  · have f : Fc (fun a i => a = 195 ∨ (a = 191 ∧ i = 12)) S (uI (uI S 195 C.length v) 191 12 (iN (C.length + 1))) := (Fc.rfl'.uI (Or.inl rfl)).uI (Or.inr ⟨rfl, rfl⟩)
    refine ⟨h1.fc f (by omega) (fun _ => by omega), h2.fc f (fun a i h1 h2 => by omega), h3.fc f ⟨by omega, by omega, by omega⟩, (f.1 _ _ (by omega)).trans h4, ?_, fun j hj => ?_⟩
    · rw [gI_us, List.length_append]; rfl
    · rw [List.length_append] at hj
      have hj : j < C.length + 1 := hj
      rw [gI_ua (by omega), gI_u, getD_app C v j hj]
      by_cases q : j = C.length
      · rw [if_pos ⟨rfl, q⟩, if_pos q]
      · rw [if_neg (fun y => q y.2), if_neg q]; exact h6 j (by omega)
theorem pM_tells1 {i : Nat} {C : List Int32} (h : MP S B n i 1 C) (v : Int32) : f_M_tells S v = some (0, S) := by
  unfold f_M_tells
  rw [h.2.2.2.1, if_neg (by decide)]
theorem MP_u9 {i er : Nat} {C : List Int32} (h : MP S B n i er C) (er' : Nat) : MP (uI S 191 9 (iN er')) B n i er' C := by
  obtain ⟨h1, h2, h3, h4, h5, h6⟩ := h
  have f : Fc (fun a i => a = 191 ∧ i = 9) S (uI S 191 9 (iN er')) := Fc.rfl'.uI ⟨rfl, rfl⟩
  exact ⟨h1.fc f (by omega) (fun _ => by omega), h2.fc f (fun a i h1 h2 => by omega), h3.fc f ⟨by omega, by omega, by omega⟩, gI_us, (f.1 _ _ (by omega)).trans h5, fun j hj => (f.1 _ _ (by omega)).trans (h6 j hj)⟩
/-- what must be, is -/
theorem pM_mustT {i : Nat} {C : List Int32} (h : MP S B n i 0 C) {b : Int32} (hb : b ≠ 0) : ∃ U, f_M_must S b = some (0, U) ∧ Fc PmL S U ∧ MP U B n (i + 1) 0 C := by
  have h' := MP_u9 h 0
  have f0 : Fc PmL S (uI S 191 9 (iN 0)) := Fc.rfl'.uI (Or.inl ⟨rfl, by omega⟩)
  obtain ⟨U, a1, a2, a3⟩ := pM_next h'.1 h'.2.2.1
  have a1 : f_M_next (uI S 191 9 (0 : Int32)) = some (0, U) := a1
  refine ⟨U, ?_, f0.trans (a2.mono pmL), h'.1.pm a2, h'.2.1.fc a2 (fun a i h1 h2 => nPm (by omega)), a3, (a2.1 _ _ (nPm (by omega))).trans h'.2.2.2.1, (a2.1 _ _ (nPm (by omega))).trans h'.2.2.2.2.1, fun j hj => (a2.1 _ _ (nPm (by omega))).trans (h'.2.2.2.2.2 j hj)⟩
  unfold f_M_must
  rw [h.2.2.2.1, if_pos (show iN 0 = (0 : Int32) from rfl), if_neg hb, gI_us, if_pos rfl, a1, bd_s]
theorem pM_mustF {i er : Nat} {C : List Int32} (h : MP S B n i er C) (he : er ≤ 1) {b : Int32} (hb : er = 1 ∨ b = 0) : ∃ U, f_M_must S b = some (0, U) ∧ Fc PmL S U ∧ MP U B n i 1 C := by
  have h' := MP_u9 h 1
  have f0 : Fc PmL S (uI S 191 9 (iN 1)) := Fc.rfl'.uI (Or.inl ⟨rfl, by omega⟩)
  refine ⟨uI S 191 9 (iN 1), ?_, f0, h'⟩
  unfold f_M_must
  rw [h.2.2.2.1]
  by_cases q : er = 0
  · subst q
    have b0 : b = 0 := hb.elim (fun z => by omega) id
    rw [if_pos (show iN 0 = (0 : Int32) from rfl), if_pos b0, gI_us, if_neg (by decide)]; rfl
  · rw [if_neg (ne0 (by omega) q), gI_us, if_neg (by decide)]; rfl
theorem v80_l (hT : TpM S B n) (hS : IvS S) {i : Nat} (h : TkM S B n i) {K : hs → Int32 → Int32 → Option (Int32 × hs)} : ∀ (r a f : Nat) (x : Int32), a + r = 6 → r < f → lp_M_value_80 K f S x (iN a) = K S (fo (fun a x => if tkc B n i = wdC (6 + a) then iN a else x) r a x) (iN 6) := by
  intro r
  induction r with
  | zero =>
    intro a f x ha hf
    obtain ⟨f, rfl⟩ : ∃ q, f = q + 1 := ⟨f - 1, by omega⟩
    obtain rfl : a = 6 := by omega
    rw [lp_M_value_80, if_pos (by decide)]; rfl
  | succ r ih =>
    intro a f x ha hf
    obtain ⟨f, rfl⟩ : ∃ q, f = q + 1 := ⟨f - 1, by omega⟩
    rw [lp_M_value_80, if_neg (le_n (a := 6) rfl (iN_i (by omega)) (by omega)), ck_of (iN_b (by omega) (by decide)), iN_c (by omega), pM_isWord hT hS (by omega) h, bd_s, if_bI, iN_1]
    by_cases q : tkc B n i = wdC (6 + a)
    · rw [decide_eq_true q, bt_t]
      refine (ih (a + 1) f _ (by omega) (by omega)).trans ?_
      show K S (fo _ r (a + 1) (iN a)) _ = K S (fo _ r (a + 1) (if tkc B n i = wdC (6 + a) then iN a else x)) _
      rw [if_pos q]
    · rw [decide_eq_false q, bt_f]
      refine (ih (a + 1) f _ (by omega) (by omega)).trans ?_
      show K S (fo _ r (a + 1) x) _ = K S (fo _ r (a + 1) (if tkc B n i = wdC (6 + a) then iN a else x)) _
      rw [if_neg q]
theorem v36_l (hT : TpM S B n) {e : Nat} (h7 : gI S 191 7 = iN e) (he : e ≤ n) {K : hs → Int32 → Int32 → Option (Int32 × hs)} : ∀ (r y f acc : Nat), y + r = e → r < f → (∀ z, y ≤ z → z < e → isDg (B z) = true) → acc < 10 ^ (4 - r) → r ≤ 4 → lp_M_value_36 K f S (iN acc) (iN y) = K S (iN (nmV B r y acc)) (iN e) := by
  have h2 := hT.2.1
  intro r
  induction r with
  | zero =>
    intro y f acc hy hf hd ha h4
    obtain ⟨f, rfl⟩ : ∃ q, f = q + 1 := ⟨f - 1, by omega⟩
    obtain rfl : y = e := by omega
    rw [lp_M_value_36, h7, if_pos ((iN_le (by omega) (by omega)).mpr (by omega))]; rfl
  | succ r ih =>
    intro y f acc hy hf hd ha h4
    obtain ⟨f, rfl⟩ : ∃ q, f = q + 1 := ⟨f - 1, by omega⟩
    obtain ⟨b1, b2⟩ := hT.2.2 y (by omega)
    have dy := hd y (Nat.le_refl _) (by omega)
    unfold isDg at dy
    simp only [Bool.and_eq_true, decide_eq_true_eq] at dy
    have e1 : (10 : Int32) * iN acc = iN (10 * acc) := iN_m 10 acc
    have e2 : iN (10 * acc + B y) - (48 : Int32) = iN (acc * 10 + (B y - 48)) := by
      have : iN (10 * acc + B y) - iN 48 = iN (10 * acc + B y - 48) := iN_s (by omega)
      rw [show acc * 10 + (B y - 48) = 10 * acc + B y - 48 from by omega]; exact this
    rw [lp_M_value_36, h7, if_neg (fun z => by have := (iN_le (by omega) (by omega)).mp z; omega), ck_of (iN_b (by omega) (by decide)), iN_c (by omega), b2, e1, iN_a, e2, iN_1, nmV]
    refine ih (y + 1) f _ (by omega) (by omega) (fun z h1 h2 => hd z (by omega) h2) ?_ (by omega)
    have : 10 ^ (4 - r) = 10 * 10 ^ (4 - (r + 1)) := by
      rw [show 4 - r = (4 - (r + 1)) + 1 from by omega, Nat.pow_succ, Nat.mul_comm]
    omega
end
