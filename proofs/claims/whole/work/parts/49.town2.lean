/-! A crossing comes, a street comes. -/
section
variable {k : cx} {S S1 S2 T : hs} {m m' : Nat → Int32} {l : Lz}
def mCr (m : Nat → Int32) (x y : Nat) : Nat → Int32 := up1 (up1 (up1 m (5 + 2 * nCr m) (iN x)) (6 + 2 * nCr m) (iN y)) 1 (iN (nCr m + 1))
theorem VM.cr (v : VM m) {x y : Nat} (hx : x ≤ 9) (hy : y ≤ 9) (hc : nCr m < 12) (hf : ∀ j, j < nCr m → ¬ (m (5 + 2 * j) = iN x ∧ m (6 + 2 * j) = iN y)) : VM (mCr m x y) ∧ nCr (mCr m x y) = nCr m + 1 ∧ nSt (mCr m x y) = nSt m ∧ nWk (mCr m x y) = nWk m ∧ nDy (mCr m x y) = nDy m := by
  have e : ∀ i, i ≠ 1 → i ≠ 5 + 2 * nCr m → i ≠ 6 + 2 * nCr m → mCr m x y i = m i := fun i h1 h2 h3 => by unfold mCr; rw [up1_n h1, up1_n h3, up1_n h2]
  have ex : mCr m x y (5 + 2 * nCr m) = iN x := by unfold mCr; rw [up1_n (by omega), up1_n (by omega), up1_s]
  have ey : mCr m x y (6 + 2 * nCr m) = iN y := by unfold mCr; rw [up1_n (by omega), up1_s]
  refine VM.of (nc := nCr m + 1) (ns := nSt m) (nw := nWk m) (nd := nDy m) (by unfold mCr; rw [up1_s]) (by omega) (by rw [e 2 (by omega) (by omega) (by omega)]; exact v.s.1) v.s.2 (by rw [e 3 (by omega) (by omega) (by omega)]; exact v.w.1) v.w.2 (by rw [e 0 (by omega) (by omega) (by omega)]; exact v.d.1) v.d.2 (fun i hi => ?_) (fun i j hi hj => ?_) (fun j hj => ?_) (fun i hi => ?_)
  · by_cases q : i = nCr m
    · subst q; exact ⟨x, y, ex, hx, ey, hy⟩
    · rw [e _ (by omega) (by omega) (by omega), e _ (by omega) (by omega) (by omega)]; exact v.x_ i (by omega)
  · by_cases q : i = nCr m
    · subst q
      by_cases z : j = nCr m
      · intro _ _; exact z.symm
      · rw [e (5 + 2 * j) (by omega) (by omega) (by omega), e (6 + 2 * j) (by omega) (by omega) (by omega), ex, ey]
        exact fun h1 h2 => absurd ⟨h1.symm, h2.symm⟩ (hf j (by omega))
    · by_cases z : j = nCr m
      · subst z
        rw [e (5 + 2 * i) (by omega) (by omega) (by omega), e (6 + 2 * i) (by omega) (by omega) (by omega), ex, ey]
        exact fun h1 h2 => absurd ⟨h1, h2⟩ (hf i (by omega))
      · rw [e (5 + 2 * i) (by omega) (by omega) (by omega), e (6 + 2 * i) (by omega) (by omega) (by omega), e (5 + 2 * j) (by omega) (by omega) (by omega), e (6 + 2 * j) (by omega) (by omega) (by omega)]
        exact v.u_ i j (by omega) (by omega)
  · rw [e _ (by omega) (by omega) (by omega), e _ (by omega) (by omega) (by omega), e _ (by omega) (by omega) (by omega), e _ (by omega) (by omega) (by omega), e _ (by omega) (by omega) (by omega)]
    obtain ⟨a', b', w', o', h', p1, p2, p3, p4, p5⟩ := v.e_ j hj
    exact ⟨a', b', w', o', h', p1, by omega, p3, by omega, p5⟩
  · rw [e _ (by omega) (by omega) (by omega), e _ (by omega) (by omega) (by omega)]; exact v.k_ i hi
theorem Tc.cr (h : Tc S m) {x y : Nat} (hx : x ≤ 9) (hy : y ≤ 9) (hc : nCr m < 12) (hf : ∀ j, j < nCr m → ¬ (m (5 + 2 * j) = iN x ∧ m (6 + 2 * j) = iN y)) : Tc (uI (uI (uI S (36 + nCr m) 0 (iN x)) (36 + nCr m) 1 (iN y)) 34 5 (iN (nCr m + 1))) (mCr m x y) := by
  obtain ⟨v', c1, c2, c3, c4⟩ := h.1.cr hx hy hc hf
  refine ⟨v', ?_⟩
  have v := h.1
  have hs := v.s.2
  have hw := v.w.2
  have e : ∀ i, i ≠ 1 → i ≠ 5 + 2 * nCr m → i ≠ 6 + 2 * nCr m → mCr m x y i = m i := fun i h1 h2 h3 => by unfold mCr; rw [up1_n h1, up1_n h3, up1_n h2]
  have ex : mCr m x y (5 + 2 * nCr m) = iN x := by unfold mCr; rw [up1_n (by omega), up1_n (by omega), up1_s]
  have ey : mCr m x y (6 + 2 * nCr m) = iN y := by unfold mCr; rw [up1_n (by omega), up1_s]
  have g : ∀ a i, ¬ (a = 34 ∧ i = 5) → ¬ a = 36 + nCr m → gI (uI (uI (uI S (36 + nCr m) 0 (iN x)) (36 + nCr m) 1 (iN y)) 34 5 (iN (nCr m + 1))) a i = gI S a i := fun a i h1 h2 => by rw [gI_u, if_neg h1, gI_ua h2, gI_ua h2]
  obtain ⟨t1, t2, t3, t4, t5, t6, t7⟩ := h.2
  unfold TB
  rw [c1, c2, c3]
  refine ⟨?_, ?_, ?_, ?_, fun i hi => ?_, fun i hi => ?_, fun i hi => ?_⟩
  · show gI _ 34 5 = _; rw [gI_us]; unfold mCr; rw [up1_s]
  · show gI _ 34 6 = _; rw [g _ _ (by omega) (by omega), e _ (by omega) (by omega) (by omega)]; exact t2
  · show gI _ 34 7 = _; rw [g _ _ (by omega) (by omega), e _ (by omega) (by omega) (by omega)]; exact t3
  · show gI _ 34 8 = _; rw [g _ _ (by omega) (by omega), e _ (by omega) (by omega) (by omega)]; exact t4
  · show gI _ (36 + i) 0 = _ ∧ gI _ (36 + i) 1 = _
    by_cases q : i = nCr m
    · subst q
      rw [ex, ey]
      constructor <;> grind [gI_u]
    · rw [g _ _ (by omega) (by omega), g _ _ (by omega) (by omega), e _ (by omega) (by omega) (by omega), e _ (by omega) (by omega) (by omega)]; exact t5 i (by omega)
  · have hA := (v.e hi).1.2
    have hB := (v.e hi).2.1.2
    have t := t6 i hi
    simp only [] at t
    have a : qA (mCr m x y) i = qA m i := by unfold qA; rw [e _ (by omega) (by omega) (by omega)]
    have b : qB (mCr m x y) i = qB m i := by unfold qB; rw [e _ (by omega) (by omega) (by omega)]
    have lL : qL (mCr m x y) i = qL m i := by
      unfold qL qX qY
      rw [a, b, e _ (by omega) (by omega) (by omega), e _ (by omega) (by omega) (by omega), e _ (by omega) (by omega) (by omega), e _ (by omega) (by omega) (by omega)]
    rw [a, b, lL]
    simp only []
    rw [g (49 + i) 0 (by omega) (by omega), g (49 + i) 1 (by omega) (by omega), g (49 + i) 2 (by omega) (by omega), g (49 + i) 3 (by omega) (by omega), g (49 + i) 4 (by omega) (by omega), g (49 + i) 5 (by omega) (by omega), g (49 + i) 6 (by omega) (by omega), g (49 + i) 7 (by omega) (by omega), e (29 + 5 * i) (by omega) (by omega) (by omega), e (30 + 5 * i) (by omega) (by omega) (by omega), e (31 + 5 * i) (by omega) (by omega) (by omega), e (32 + 5 * i) (by omega) (by omega) (by omega), e (33 + 5 * i) (by omega) (by omega) (by omega), e (5 + 2 * qA m i) (by omega) (by omega) (by omega), e (5 + 2 * qB m i) (by omega) (by omega) (by omega), e (6 + 2 * qA m i) (by omega) (by omega) (by omega), e (6 + 2 * qB m i) (by omega) (by omega) (by omega)]
    exact t
  · show gI _ (70 + i) 0 = _ ∧ gI _ (70 + i) 1 = _ ∧ gI _ (70 + i) 2 = _
    rw [g _ _ (by omega) (by omega), g _ _ (by omega) (by omega), g _ _ (by omega) (by omega), e _ (by omega) (by omega) (by omega), e _ (by omega) (by omega) (by omega), e _ (by omega) (by omega) (by omega)]; exact t7 i hi
theorem Tn.up3 (h : Tn S m) {i j n : Nat} {x y z : Int32} (v' : VM (up1 (up1 (up1 m i x) j y) n z)) : Tn (uI (uI (uI S 192 i x) 192 j y) 192 n z) (up1 (up1 (up1 m i x) j y) n z) := by
  refine ⟨v', fun p hp => ?_⟩
  rw [gI_u, gI_u, gI_u]
  unfold up1
  have := h.at hp
  grind
theorem iN_p1 (c : Nat) {x : Int32} (h : x = iN c) : x + 1 = iN (c + 1) := by rw [h, iN_1]
theorem q_crossing (h : Inv k S) (x y : Int32) : Q2 k S (f_X_crossing S x y) (fun T => f_M_crossing T x y) := by
  obtain ⟨m, l, ht⟩ := h.1
  have hc := ht.1
  have hn := ht.2.1
  have hm := hc.1.c.2
  by_cases q : (0 ≤ x.toInt ∧ x.toInt ≤ 9) ∧ (0 ≤ y.toInt ∧ y.toInt ≤ 9)
  · obtain ⟨a, rfl, ha, ea⟩ := iN_of q.1.1
    obtain ⟨b, rfl, hb, eb⟩ := iN_of q.2.1
    have c0 : f_X_crossing S (iN a) (iN b) = if gI S 34 5 < (12 : Int32) then bd (f_T_isTaken S (iN a) (iN b)) fun r6 S7 => (if r6 = 0 then bd (f_T_addCrossing S7 (iN a) (iN b)) fun r10 S11 => some (r10, S11) else some ((-4 : Int32), S7)) else some ((-2 : Int32), S) := by
      unfold f_X_crossing
      rw [if_neg (lt_n rfl tl0 (by omega)), if_neg (lt_n tl9 rfl (by omega)), if_neg (lt_n rfl tl0 (by omega)), if_pos (le_y rfl tl9 (by omega))]
    have m0 : ∀ S : hs, f_M_crossing S (iN a) (iN b) = if (gI S 192 1) = (12 : Int32) then some ((-2 : Int32), S) else bd (f_M_isThere S (iN a) (iN b)) fun r10 S11 => (if r10 = 0 then ck (inb ((5 : Int32) + ((2 : Int32) * (gI S 192 1))) 358) (ck (inb (((5 : Int32) + ((2 : Int32) * (gI S 192 1))) + (1 : Int32)) 358) (some ((gI S 192 1), (uI (uI (uI S11 192 (((5 : Int32) + ((2 : Int32) * (gI S 192 1)))).toNatClampNeg (iN a)) 192 ((((5 : Int32) + ((2 : Int32) * (gI S 192 1))) + (1 : Int32))).toNatClampNeg (iN b)) 192 1 ((gI (uI (uI S11 192 (((5 : Int32) + ((2 : Int32) * (gI S 192 1)))).toNatClampNeg (iN a)) 192 ((((5 : Int32) + ((2 : Int32) * (gI S 192 1))) + (1 : Int32))).toNatClampNeg (iN b)) 192 1) + (1 : Int32)))))) else some ((-4 : Int32), S11)) := by
      intro S
      unfold f_M_crossing
      rw [in_y tl0 tl9 q.1, bd_s, if_neg (by decide), in_y tl0 tl9 q.2, bd_s, if_neg (by decide)]
    by_cases q1 : nCr m < 12
    · have t1 : f_T_isTaken S (iN a) (iN b) = some (bI (tkn m (iN a) (iN b) (nCr m) 0), S) := pT_isTaken_l hc (nCr m) 0 1000 (by omega) (by omega)
      have p1 : gI S 34 5 < (12 : Int32) := lt_y (a := (nCr m : Int)) (by rw [hc.c]; exact iN_i (by omega)) tl12 (by omega)
      have t2 : ∀ S, Tn S m → f_M_isThere S (iN a) (iN b) = some (bI (tkn m (iN a) (iN b) (nCr m) 0), S) := fun S hn => pM_isThere_l hn (nCr m) 0 1000 (by omega) (by omega)
      have p2 : ∀ S, Tn S m → ¬ (gI S 192 1) = (12 : Int32) := fun S hn z => by rw [hn.c] at z; have := (iN_eq (b := 12) (by omega) (by omega)).mp z; omega
      cases ht' : tkn m (iN a) (iN b) (nCr m) 0 with
      | true =>
        refine Q2.same (r := -4) h ?_ ?_
        · rw [c0, if_pos p1, t1, ht', bd_s, if_bI, bt_t]
        · show f_M_crossing S _ _ = _
          rw [m0, if_neg (p2 S hn), t2 S hn, ht', bd_s, if_bI, bt_t]
      | false =>
        have hf : ∀ j, j < nCr m → ¬ (m (5 + 2 * j) = iN a ∧ m (6 + 2 * j) = iN b) := fun j hj => tkn_f (nCr m) 0 ht' j (by omega) (by omega)
        have h1 : f_X_crossing S (iN a) (iN b) = some (iN (nCr m), uI (uI (uI S (36 + nCr m) 0 (iN a)) (36 + nCr m) 1 (iN b)) 34 5 (iN (nCr m + 1))) := by
          rw [c0, if_pos p1, t1, ht', bd_s, if_bI, bt_f]
          unfold f_T_addCrossing
          rw [if_pos p1, hc.c, ck_of (iN_b (by omega) (by decide)), iN_c (by omega), bd_s, gI_ua (by omega), gI_ua (by omega), hc.c, iN_1]
        have f1 : Fr (fun a => (34 ≤ a ∧ a < 74) ∨ Scr a) S (uI (uI (uI S (36 + nCr m) 0 (iN a)) (36 + nCr m) 1 (iN b)) 34 5 (iN (nCr m + 1))) := ((Fr.rfl'.uI (Or.inl (by omega))).uI (Or.inl (by omega))).uI (Or.inl (by omega))
        have hn1 := hn.fr f1 (fun z => z.elim (by omega) (nScr (by omega)))
        have c1 := hc.cr (x := a) (y := b) (by omega) (by omega) q1 hf
        have e1 : (5 : Int32) + (2 : Int32) * iN (nCr m) = iN (5 + 2 * nCr m) := by show iN 5 + iN 2 * iN _ = _; rw [iN_m, iN_a]
        have e2 : iN (5 + 2 * nCr m) + (1 : Int32) = iN (6 + 2 * nCr m) := by rw [iN_1]; congr 1; omega
        have h2 : f_M_crossing (uI (uI (uI S (36 + nCr m) 0 (iN a)) (36 + nCr m) 1 (iN b)) 34 5 (iN (nCr m + 1))) (iN a) (iN b) = some (iN (nCr m), uI (uI (uI (uI (uI (uI S (36 + nCr m) 0 (iN a)) (36 + nCr m) 1 (iN b)) 34 5 (iN (nCr m + 1))) 192 (5 + 2 * nCr m) (iN a)) 192 (6 + 2 * nCr m) (iN b)) 192 1 (iN (nCr m + 1))) := by
          rw [m0, if_neg (p2 _ hn1), t2 _ hn1, ht', bd_s, if_bI, bt_f, hn1.c, e1, e2, ck_of (iN_b (by omega) (by decide)), ck_of (iN_b (by omega) (by decide)), iN_c (by omega), iN_c (by omega), gI_un (by omega), gI_un (by omega), hn1.c, iN_1]
        exact Q2.town h ht h1 c1 f1 h2 (hn1.up3 c1.1) (((Fr.rfl'.uI (Or.inl rfl)).uI (Or.inl rfl)).uI (Or.inl rfl)) (fun i hi => by unfold mCr; rw [up1_n (by omega), up1_n (by omega), up1_n (by omega)])
    · refine Q2.same (r := -2) h ?_ ?_
      · rw [c0, if_neg (lt_n (a := (nCr m : Int)) (by rw [hc.c]; exact iN_i (by omega)) tl12 (by omega))]
      · show f_M_crossing S _ _ = _
        rw [m0, if_pos (by rw [hn.c, show nCr m = 12 by omega]; rfl)]
  · refine Q2.same (r := -1) h ?_ ?_
    · unfold f_X_crossing
      by_cases a1 : x.toInt < 0
      · rw [if_pos (lt_y rfl tl0 a1)]
      by_cases a2 : 9 < x.toInt
      · rw [if_neg (lt_n rfl tl0 (by omega)), if_pos (lt_y tl9 rfl a2)]
      by_cases a3 : y.toInt < 0
      · rw [if_neg (lt_n rfl tl0 (by omega)), if_neg (lt_n tl9 rfl (by omega)), if_pos (lt_y rfl tl0 a3)]
      · rw [if_neg (lt_n rfl tl0 (by omega)), if_neg (lt_n tl9 rfl (by omega)), if_neg (lt_n rfl tl0 (by omega)), if_neg (le_n rfl tl9 (by omega))]
    · show f_M_crossing S x y = _
      unfold f_M_crossing
      by_cases a1 : 0 ≤ x.toInt ∧ x.toInt ≤ 9
      · rw [in_y tl0 tl9 a1, bd_s, if_neg (by decide), in_n tl0 tl9 (fun z => q ⟨a1, z⟩), bd_s, if_pos rfl]
      · rw [in_n tl0 tl9 a1, bd_s, if_pos rfl]
end
