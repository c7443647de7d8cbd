/-! The model's words and signs, by the token's number. -/
theorem wdC_i : ∀ a, a < 17 → ∀ b, b < 17 → wdC a = wdC b → a = b := by decide +kernel
theorem wdC_n : ∀ a, a < 17 → wdC a = iN (wdC a).toNatClampNeg ∧ 10000 ≤ (wdC a).toNatClampNeg ∧ (wdC a).toNatClampNeg ≤ 20015 ∧ ¬ (wdC a = 20000) := by decide +kernel
theorem tx_u : ∀ a, a < 16 → ∀ b, b < 16 → tLen a = tLen b → (∀ k, k < tLen a → tCh a k = tCh b k) → a = b := by decide +kernel
section
variable {k : cx} {S S1 S2 T : hs} {B : Nat → Nat} {n : Nat}
theorem wdR_c {a x : Nat} : ∀ (r k : Nat), wdR B a x r k = true → ∀ j, k ≤ j → j < k + r → iN (B (x + j)) = tCh a j := by
  intro r
  induction r with
  | zero => intro k _ j h1 h2; omega
  | succ r ih =>
    intro k h j h1 h2
    rw [wdR, Bool.and_eq_true, decide_eq_true_eq] at h
    by_cases z : j = k
    · subst z; exact h.1
    · exact ih (k + 1) h.2 j (by omega) (by omega)
theorem wdM_u {a b x e : Nat} (ha : a < 16) (hb : b < 16) (h : wdM B a x e = true) (h' : wdM B b x e = true) : a = b := by
  unfold wdM at h h'
  rw [Bool.and_eq_true, decide_eq_true_eq] at h h'
  refine tx_u a ha b hb (h.1.symm.trans h'.1) (fun k hk => ?_)
  rw [← wdR_c _ _ h.2 k (by omega) (by omega)]
  exact wdR_c _ _ h'.2 k (by omega) (by omega)
theorem wdF_w {a x e : Nat} (ha : a < 16) : wdM B a x e = decide (wdC (wdF B x e) = wdC a) := by
  have hr := fiN_r (fun a => wdM B a x e) 16 0
  have hr : wdF B x e ≤ 16 := by unfold wdF; omega
  cases q : wdM B a x e with
  | true =>
    have hle : wdF B x e ≤ a := by
      rcases Nat.lt_or_ge a (wdF B x e) with z | z
      · have := fiN_f (fun a => wdM B a x e) 16 0 a (Nat.zero_le _) z
        rw [q] at this; exact absurd this (by decide)
      · exact z
    have ht := fiN_t (fun a => wdM B a x e) 16 0 (show wdF B x e < 0 + 16 by omega)
    have this : wdF B x e = a := wdM_u (a := wdF B x e) (by omega) ha ht q
    rw [this, decide_eq_true rfl]
  | false =>
    symm
    refine decide_eq_false (fun z => ?_)
    have := wdC_i _ (by omega) a (by omega) z
    have ht := fiN_t (fun a => wdM B a x e) 16 0 (show wdF B x e < 0 + 16 by omega)
    have ht : wdM B (wdF B x e) x e = true := ht
    rw [this, q] at ht; exact absurd ht (by decide)
theorem nmV_b : ∀ (r x acc : Nat), (∀ z, x ≤ z → z < x + r → isDg (B z) = true) → acc < 10 ^ (4 - r) → r ≤ 4 → nmV B r x acc < 10000 := by
  intro r
  induction r with
  | zero => intro x acc _ h _; exact h
  | succ r ih =>
    intro x acc hd ha h4
    have dy := hd x (Nat.le_refl _) (by omega)
    unfold isDg at dy
    simp only [Bool.and_eq_true, decide_eq_true_eq] at dy
    rw [nmV]
    refine ih (x + 1) _ (fun z h1 h2 => hd z (by omega) (by omega)) ?_ (by omega)
    have : 10 ^ (4 - r) = 10 * 10 ^ (4 - (r + 1)) := by
      rw [show 4 - r = (4 - (r + 1)) + 1 from by omega, Nat.pow_succ, Nat.mul_comm]
    omega
theorem dg_run {s : Nat} (hs1 : s < n) (d1 : isDg (B s) = true) : ∀ z, s ≤ z → z < s + (tkE B n s - s) → isDg (B z) = true := fun z h1 h2 => by
  have := tkE_r (B := B) hs1
  rw [(run_c (n := n) (x := s) (z - s) z (by omega) (by omega)).2]; exact d1
/-- what a token is -/
theorem tk_cases (i : Nat) : (stq B n i = n ∧ kdq B n i = 0 ∧ tkc B n i = 20000) ∨ (stq B n i < n ∧ isLt (B (stq B n i)) = true ∧ kdq B n i = 1 ∧ tkc B n i = wdC (wdF B (stq B n i) (enq B n i))) ∨ (stq B n i < n ∧ isDg (B (stq B n i)) = true ∧ kdq B n i = 2 ∧ ((enq B n i - stq B n i ≤ 4 ∧ nmV B (enq B n i - stq B n i) (stq B n i) 0 < 10000 ∧ tkc B n i = iN (nmV B (enq B n i - stq B n i) (stq B n i) 0)) ∨ (4 < enq B n i - stq B n i ∧ tkc B n i = 20001))) ∨ (stq B n i < n ∧ kdq B n i = 3 ∧ isLt (B (stq B n i)) = false ∧ isDg (B (stq B n i)) = false ∧ tkc B n i = iN (20100 + B (stq B n i))) := by
  have hn := stq_n (B := B) (n := n) i
  unfold kdq tkc enq
  by_cases q : stq B n i < n
  · rw [if_pos q, if_pos q, if_pos q]
    refine Or.inr ?_
    unfold kdB tkV
    cases l1 : isLt (B (stq B n i)) with
    | true => exact Or.inl ⟨q, rfl, if_pos rfl, if_pos rfl⟩
    | false =>
      have ff : ¬ (false = true) := by decide
      rw [if_neg ff, if_neg ff]
      cases d1 : isDg (B (stq B n i)) with
      | true =>
        rw [if_pos rfl, if_pos rfl]
        refine Or.inr (Or.inl ⟨q, rfl, rfl, ?_⟩)
        by_cases h4 : tkE B n (stq B n i) - stq B n i ≤ 4
        · rw [if_pos h4]
          exact Or.inl ⟨h4, nmV_b _ _ 0 (dg_run q d1) (Nat.pow_pos (by decide)) h4, rfl⟩
        · rw [if_neg h4]
          exact Or.inr ⟨by omega, rfl⟩
      | false =>
        rw [if_neg ff, if_neg ff]
        refine Or.inr (Or.inr ⟨q, rfl, rfl, rfl, ?_⟩)
        exact iN_a 20100 _
  · rw [if_neg q, if_neg q]
    exact Or.inl ⟨by omega, rfl, rfl⟩
theorem miw0 {a f : Nat} {x : Int32} : lp_M_isWord_32 a (f + 1) S 0 x = some (0, S) := by
  rw [lp_M_isWord_32]
  unfold f_St_length
  rw [bd_s]
  split
  · rfl
  · rw [if_pos rfl]; rfl
theorem miw_l (hT : TpM S B n) (hS : IvS S) {a s : Nat} (ha : a < 16) (h6 : gI S 191 6 = iN s) (hl : s + tLen a ≤ n) : ∀ (r k f : Nat), k + r = tLen a → r < f → lp_M_isWord_32 a (f + 1) S 1 (iN k) = some (bI (wdR B a s r k), S) := by
  have h2 := hT.2.1
  obtain ⟨t1, t2, t3, t4, t5⟩ := tx_ok a ha
  have ln : f_St_length S a = some (iN (tLen a), S) := by unfold f_St_length; rw [t3]
  intro r
  induction r with
  | zero =>
    intro k f hk hf
    rw [lp_M_isWord_32, ln, bd_s, if_pos ((iN_le (by omega) (by omega)).mpr (by omega))]; rfl
  | succ r ih =>
    intro k f hk hf
    obtain ⟨f, rfl⟩ : ∃ q, f = q + 1 := ⟨f - 1, by omega⟩
    rw [lp_M_isWord_32, ln, bd_s, if_neg (fun z => by have := (iN_le (by omega) (by omega)).mp z; omega), if_neg (by decide), h6, iN_a, ck_of (iN_b (by omega) (by decide)), pSt_charAt hS ha (by omega), bd_s, iN_c (by omega), (hT.2.2 (s + k) (by omega)).2, iN_1, wdR]
    by_cases q : iN (B (s + k)) = tCh a k
    · rw [if_pos q, decide_eq_true q, Bool.true_and]
      exact ih (k + 1) f (by omega) (by omega)
    · rw [if_neg q, decide_eq_false q, Bool.false_and]; exact miw0
theorem pM_isWord (hT : TpM S B n) (hS : IvS S) {a i : Nat} (ha : a < 16) (h : TkM S B n i) : f_M_isWord S a = some (bI (decide (tkc B n i = wdC a)), S) := by
  have h2 := hT.2.1
  obtain ⟨t1, t2, t3, t4, t5⟩ := tx_ok a ha
  have ln : f_St_length S a = some (iN (tLen a), S) := by unfold f_St_length; rw [t3]
  obtain ⟨w1, w2, w3, w4⟩ := wdC_n a (by omega)
  have no : kdq B n i ≠ 1 → kdq B n i ≤ 3 → ¬ tkc B n i = wdC a → f_M_isWord S a = some (bI (decide (tkc B n i = wdC a)), S) := fun q q3 c => by
    unfold f_M_isWord
    rw [h.2.2, if_neg (show ¬ iN (kdq B n i) = (1 : Int32) from eq_i (b := 1) (by omega) (by decide) q), decide_eq_false c]
    exact miw0
  rcases tk_cases (B := B) (n := n) i with ⟨c1, c2, c3⟩ | ⟨c1, c2, c3, c4⟩ | ⟨c1, c2, c3, c4⟩ | ⟨c1, c2, c3, c4, c5⟩
  · exact no (by omega) (by omega) (fun z => w4 (z.symm.trans c3))
  · unfold f_M_isWord
    have e1 : enq B n i = tkE B n (stq B n i) := by unfold enq; rw [if_pos c1]
    obtain ⟨r1, r2⟩ := tkE_r (B := B) c1
    rw [h.2.2, c3, if_pos (show iN 1 = (1 : Int32) from rfl), ln, bd_s, h.2.1, h.1, iN_s (by omega), c4, ← wdF_w ha]
    unfold wdM
    by_cases q : enq B n i - stq B n i = tLen a
    · rw [if_pos (by rw [q]), decide_eq_true q, Bool.true_and, q]
      exact miw_l hT hS ha h.1 (by omega) (tLen a) 0 999 (by omega) (by omega)
    · rw [if_neg (eq_i (by omega) (by omega) q), decide_eq_false q, Bool.false_and]
      exact miw0
  · refine no (by omega) (by omega) (fun z => ?_)
    rcases c4 with ⟨d1, d2, d3⟩ | ⟨d1, d2⟩
    · rw [d3, w1] at z
      have := (iN_eq (by omega) (by omega)).mp z
      omega
    · rw [d2] at z
      have := wdC_i 16 (by omega) a (by omega) z
      omega
  · refine no (by omega) (by omega) (fun z => ?_)
    have hb := (hT.2.2 _ c1).1
    rw [c5, w1] at z
    have := (iN_eq (by omega) (by omega)).mp z
    omega
theorem pM_isSign (hT : TpM S B n) {c i : Nat} (hc : c < 256) (h : TkM S B n i) : f_M_isSign S (iN c) = some (bI (decide (tkc B n i = iN (20100 + c))), S) := by
  have h2 := hT.2.1
  have no : kdq B n i ≠ 3 → kdq B n i ≤ 3 → ¬ tkc B n i = iN (20100 + c) → f_M_isSign S (iN c) = some (bI (decide (tkc B n i = iN (20100 + c))), S) := fun q q3 d => by
    unfold f_M_isSign
    rw [h.2.2, if_neg (show ¬ iN (kdq B n i) = (3 : Int32) from eq_i (b := 3) (by omega) (by decide) q), decide_eq_false d]
    rfl
  rcases tk_cases (B := B) (n := n) i with ⟨c1, c2, c3⟩ | ⟨c1, c2, c3, c4⟩ | ⟨c1, c2, c3, c4⟩ | ⟨c1, c2, c3, c4, c5⟩
  · refine no (by omega) (by omega) (fun z => ?_)
    rw [c3] at z
    have := (iN_eq (a := 20000) (by omega) (by omega)).mp z
    omega
  · refine no (by omega) (by omega) (fun z => ?_)
    have hr := fiN_r (fun a => wdM B a (stq B n i) (enq B n i)) 16 0
    have hr : wdF B (stq B n i) (enq B n i) ≤ 16 := by unfold wdF; omega
    obtain ⟨w1, w2, w3, w4⟩ := wdC_n (wdF B (stq B n i) (enq B n i)) (by omega)
    rw [c4, w1] at z
    have := (iN_eq (by omega) (by omega)).mp z
    omega
  · refine no (by omega) (by omega) (fun z => ?_)
    rcases c4 with ⟨d1, d2, d3⟩ | ⟨d1, d2⟩
    · rw [d3] at z
      have := (iN_eq (by omega) (by omega)).mp z
      omega
    · rw [d2] at z
      have := (iN_eq (a := 20001) (by omega) (by omega)).mp z
      omega
  · have hb := (hT.2.2 _ c1).1
    unfold f_M_isSign
    rw [h.2.2, c2, if_pos (show iN 3 = (3 : Int32) from rfl), h.1, ck_of (iN_b (by omega) (by decide)), iN_c (by omega), (hT.2.2 _ c1).2, c5]
    by_cases q : B (stq B n i) = c
    · rw [if_pos (by rw [q]), decide_eq_true (by rw [q])]; rfl
    · rw [if_neg (eq_i (by omega) (by omega) q), decide_eq_false (eq_i (by omega) (by omega) (by omega))]; rfl
end
