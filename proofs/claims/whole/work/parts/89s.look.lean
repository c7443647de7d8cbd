/-! trace and many, on both sides. -/
def Iv2 (k : cx) (S : hs) : Prop := Inv k S ∧ ∀ j, j < k.1 → 6 ≤ k.2.2.1 (213 + 2 * j) ∧ k.2.2.1 (213 + 2 * j) ≤ 10
section
variable {w : Wd} {k k' : cx} {S T : hs}
theorem Inv.ac (h : Inv k S) (e : ∀ a i, a < 212 → ¬ (a = 191 ∧ 31 ≤ i) → gI T a i = gI S a i) (f : ∀ a i, a < 212 → gJ T a i = gJ S a i) (hA : IvA k' T) : Inv k' T := by
  obtain ⟨⟨m, l, ht⟩, hk, hr, hp, hh, hg, -, h8, hi⟩ := h
  have fr : Fr (fun a => a = 191 ∨ 212 ≤ a) S T := fun a q => ⟨fun i => e a i (by omega) (by omega), fun i => f a i (by omega)⟩
  exact ⟨⟨m, l, ht.1.fr fr (fun a h1 h2 => by omega), ht.2.1.fr fr (by omega), ht.2.2.1.fr fr (fun a h1 h2 => by omega), ht.2.2.2⟩, hk.cg (fun a i q => e a i (by omega) (by omega)), hr.cg (fun a i q => e a i (by omega) (by omega)), hp.cg (fun a i q => e a i (by omega) (by omega)), hh.cg (fun a i q => e a i (by omega) (by omega)) (fun a i q1 q2 => f a i (by omega)), hg.cg (fun a i q => e a i (by omega) (by omega)), hA, h8.cg (fun a i q1 q2 => e a i (by omega) (by omega)), (e 191 3 (by omega) (by omega)).trans hi⟩
/-- a call that makes no thing -/
theorem sp_of {D : Nat} {mX mM : Mt} {ar : List Value} {oX : Option (Int32 × hs)} {oM : hs → Option (Int32 × hs)} (hI : Iv2 k S) (hk : k.1 ≤ 600) (q : Q2 k S oX oM) (cX : ∀ z, oX = some z → Cl w D mX (.ref 33 :: ar) (mk k S) (some (.int z.1)) (mk k z.2)) (cM : ∀ T z, oM T = some z → Cl w D mM (.ref 191 :: ar) (mk k T) (some (.int z.1)) (mk k z.2)) : Sp2 w D mX mM ar k S (Nx Iv2 k) := by
  obtain ⟨r, S1, S2, h1, h2, h3, h4⟩ := q
  exact ⟨r, k, S1, S2, cX (r, S1) h1, cM S1 (r, S2) h2, rfl, by omega, h3, ⟨h4, hI.2⟩, Nat.le_succ _⟩
/-- a question whose class's side is told by itself -/
theorem sp_same {D : Nat} {mX mM : Mt} {ar : List Value} {r : Int32} (hI : Iv2 k S) (hk : k.1 ≤ 600) (cX : Cl w D mX (.ref 33 :: ar) (mk k S) (some (.int r)) (mk k S)) (cM : Cl w D mM (.ref 191 :: ar) (mk k S) (some (.int r)) (mk k S)) : Sp2 w D mX mM ar k S (Nx Iv2 k) :=
  ⟨r, k, S, S, cX, cM, rfl, by omega, fun _ => rfl, hI, Nat.le_succ _⟩
theorem Tg_of (hI : Iv2 k S) {j : Nat} (hj : j < k.1) (hl : k.2.2.2 = some (213 + 2 * j)) : Tg (kLt k (some (213 + 2 * j))) (213 + 2 * j) (k.2.2.1 (213 + 2 * j)) := ⟨j, rfl, hj, rfl, hI.2 j hj⟩
theorem i31 : ∀ n, n < 31 → (iN n - (1 : Int32)).toInt = (n : Int) - 1 := by decide +kernel
theorem q_trace (hI : Iv2 k S) (hk : k.1 ≤ 600) (x : Int32) : Sp2 w 1000 m_X_trace m_M_trace [.int x] k S (Nx Iv2 k) := by
  rcases hI.1.2.2.2.2.2.2.1 with ⟨h1, h2⟩ | ⟨j, n, h1, h2, h3, h4, h5, h6⟩
  · have cX := c_X_trace0 w 999 k S x
    rw [kLt_e h1] at cX
    refine sp_same hI hk cX (c_M_trace w 998 k S x (z := (-3, S)) ?_)
    unfold f_M_trace
    rw [h2, in_n (b := (0 : Int32) - 1) tl0 (show ((0 : Int32) - 1).toInt = -1 from rfl) (by omega), bd_s, if_pos rfl]
  · have hT := Tg_of hI h2 h1
    by_cases q : 0 ≤ x.toInt ∧ x < gI S (213 + 2 * j) 3
    · obtain ⟨i, rfl, hi, ei⟩ := iN_of q.1
      have q2 := q.2
      rw [h4, iN_lt hi (by omega)] at q2
      have cX := c_X_trace2 w 999 k S (213 + 2 * j) _ (iN i) hT q (iN_b (by omega) (by decide))
      rw [kLt_e h1, iN_c hi] at cX
      refine sp_same hI hk cX (c_M_trace w 998 k S (iN i) (z := (gI S (213 + 2 * j + 1) i, S)) ?_)
      unfold f_M_trace
      rw [h5, in_y tl0 (i31 n (by omega)) (by rw [ei]; omega), bd_s, if_neg (by decide), ck_of (iN_b (by omega) (by decide)), iN_c hi]
      have := h6 i q2
      rw [show 214 + 2 * j = 213 + 2 * j + 1 by omega] at this
      rw [this]
    · have cX := c_X_trace1 w 999 k S (213 + 2 * j) _ x hT q
      rw [kLt_e h1] at cX
      refine sp_same hI hk cX (c_M_trace w 998 k S x (z := (-3, S)) ?_)
      unfold f_M_trace
      rw [h5, in_n tl0 (i31 n (by omega)) (fun z => q ⟨z.1, by rw [h4]; exact lt_y rfl (iN_i (by omega)) (by omega)⟩), bd_s, if_pos rfl]
theorem q_many (hI : Iv2 k S) (hk : k.1 ≤ 600) (x : Int32) : Sp2 w 1000 m_X_many m_M_many [.int x] k S (Nx Iv2 k) := by
  obtain ⟨m, l, ht⟩ := hI.1.1
  by_cases q : 0 ≤ x.toInt ∧ x.toInt ≤ 7
  · obtain ⟨i, rfl, hi, ei⟩ := iN_of q.1
    have : i = 0 ∨ i = 1 ∨ i = 2 ∨ i = 3 ∨ i = 4 ∨ i = 5 ∨ i = 6 ∨ i = 7 := by omega
    rcases this with rfl | rfl | rfl | rfl | rfl | rfl | rfl | rfl
    · refine sp_same hI hk (c_X_many0 w 995 k S) (c_M_many w 997 k S (iN 0) (z := (gI S 34 5, S)) ?_)
      unfold f_M_many
      rw [if_pos (by decide), ht.1.c, ht.2.1.c]
    · refine sp_same hI hk (c_X_many1 w 995 k S) (c_M_many w 997 k S (iN 1) (z := (gI S 34 6, S)) ?_)
      unfold f_M_many
      rw [if_neg (by decide), if_pos (by decide), ht.1.s, ht.2.1.s]
    · refine sp_same hI hk (c_X_many2 w 995 k S _ (pT_countCourses ht.1)) (c_M_many w 997 k S (iN 2) (z := (_, S)) ?_)
      unfold f_M_many
      rw [if_neg (by decide), if_neg (by decide), if_pos (by decide)]
      exact pM_many_l ht.2.1 40 0 1000 0 rfl (by omega)
    · refine sp_same hI hk (c_X_many3 w 995 k S) (c_M_many w 997 k S (iN 3) (z := (gI S 34 7, S)) ?_)
      unfold f_M_many
      rw [if_neg (by decide), if_neg (by decide), if_neg (by decide), if_pos (by decide), ht.1.w, ht.2.1.w]
    · refine sp_same hI hk (c_X_many4 w 995 k S) (c_M_many w 997 k S (iN 4) (z := (gI S 74 5, S)) ?_)
      unfold f_M_many
      have e : gI S 74 5 = iN l.1 := ht.2.2.1.1
      rw [if_neg (by decide), if_neg (by decide), if_neg (by decide), if_neg (by decide), if_pos (by decide), e, ht.2.1.at (by omega), ht.2.2.2.1]
    · refine sp_same hI hk (c_X_many5 w 995 k S) (c_M_many w 997 k S (iN 5) (z := (gI S 33 6, S)) ?_)
      obtain ⟨r, -, r1, r2, -⟩ := hI.1.2.2.1
      unfold f_M_many
      rw [if_neg (by decide), if_neg (by decide), if_neg (by decide), if_neg (by decide), if_neg (by decide), if_pos (by decide), r1, r2]
    · refine sp_same hI hk (c_X_many6 w 995 k S) (c_M_many w 997 k S (iN 6) (z := (gI S 128 2, S)) ?_)
      obtain ⟨r, -, r1, r2, -⟩ := hI.1.2.2.2.1
      unfold f_M_many
      rw [if_neg (by decide), if_neg (by decide), if_neg (by decide), if_neg (by decide), if_neg (by decide), if_neg (by decide), if_pos (by decide), r1, r2]
    · have m7 : f_M_many S (iN 7) = some (gI S 191 31, S) := by
        unfold f_M_many
        rw [if_neg (by decide), if_neg (by decide), if_neg (by decide), if_neg (by decide), if_neg (by decide), if_neg (by decide), if_neg (by decide), if_pos (by decide)]
      rcases hI.1.2.2.2.2.2.2.1 with ⟨h1, h2⟩ | ⟨j, n, h1, h2, h3, h4, h5, h6⟩
      · have cX := c_X_many7n w 995 k S
        rw [kLt_e h1] at cX
        exact sp_same hI hk cX (c_M_many w 997 k S (iN 7) (z := (0, S)) (by rw [m7, h2]))
      · have cX := c_X_many7 w 995 k S (213 + 2 * j) _ (Tg_of hI h2 h1)
        rw [kLt_e h1] at cX
        exact sp_same hI hk cX (c_M_many w 997 k S (iN 7) (z := (gI S (213 + 2 * j) 3, S)) (by rw [m7, h4, h5]))
  · refine sp_same hI hk (c_X_manyB w 995 k S x q) (c_M_many w 997 k S x (z := (-1, S)) ?_)
    unfold f_M_many
    rw [if_neg (fun z => by rw [z] at q; exact q (by decide)), if_neg (fun z => by rw [z] at q; exact q (by decide)), if_neg (fun z => by rw [z] at q; exact q (by decide)), if_neg (fun z => by rw [z] at q; exact q (by decide)), if_neg (fun z => by rw [z] at q; exact q (by decide)), if_neg (fun z => by rw [z] at q; exact q (by decide)), if_neg (fun z => by rw [z] at q; exact q (by decide)), if_neg (fun z => by rw [z] at q; exact q (by decide))]
end
