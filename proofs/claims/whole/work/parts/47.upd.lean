/-! Changes of the town. -/
def up1 (f : Nat → Int32) (i : Nat) (v : Int32) : Nat → Int32 := fun j => if j = i then v else f j
theorem up1_s {f : Nat → Int32} {i : Nat} {v : Int32} : up1 f i v i = v := if_pos rfl
theorem up1_n {f : Nat → Int32} {i j : Nat} {v : Int32} (h : j ≠ i) : up1 f i v j = f j := if_neg h
theorem up1_e {f : Nat → Int32} {i j : Nat} {v : Int32} (h : j = i) : up1 f i v j = v := if_pos h
theorem VM.of {m : Nat → Int32} {nc ns nw nd : Nat} (h1 : m 1 = iN nc) (k1 : nc ≤ 12) (h2 : m 2 = iN ns) (k2 : ns ≤ 20) (h3 : m 3 = iN nw) (k3 : nw ≤ 4) (h0 : m 0 = iN nd) (k0 : nd ≤ 6)
    (hx : ∀ i, i < nc → ∃ x y : Nat, m (5 + 2 * i) = iN x ∧ x ≤ 9 ∧ m (6 + 2 * i) = iN y ∧ y ≤ 9)
    (hu : ∀ i j, i < nc → j < nc → m (5 + 2 * i) = m (5 + 2 * j) → m (6 + 2 * i) = m (6 + 2 * j) → i = j)
    (he : ∀ j, j < ns → ∃ a b w o h : Nat, m (29 + 5 * j) = iN a ∧ a < nc ∧ m (30 + 5 * j) = iN b ∧ b < nc ∧ a ≠ b ∧ m (31 + 5 * j) = iN w ∧ 1 ≤ w ∧ w ≤ 9 ∧ m (32 + 5 * j) = iN o ∧ o ≤ 1 ∧ m (33 + 5 * j) = iN h ∧ h ≤ 1)
    (hk : ∀ i, i < nw → ∃ c d : Nat, m (129 + 3 * i) = iN c ∧ c < 2 * ns ∧ m (130 + 3 * i) = iN d ∧ d ≤ 9) : VM m ∧ nCr m = nc ∧ nSt m = ns ∧ nWk m = nw ∧ nDy m = nd := by
  have e1 : nCr m = nc := by unfold nCr; rw [h1, iN_c (by omega)]
  have e2 : nSt m = ns := by unfold nSt; rw [h2, iN_c (by omega)]
  have e3 : nWk m = nw := by unfold nWk; rw [h3, iN_c (by omega)]
  have e0 : nDy m = nd := by unfold nDy; rw [h0, iN_c (by omega)]
  refine ⟨⟨⟨by rw [e1]; exact h1, by omega⟩, ⟨by rw [e2]; exact h2, by omega⟩, ⟨by rw [e3]; exact h3, by omega⟩, ⟨by rw [e0]; exact h0, by omega⟩, ?_, ?_, ?_, ?_⟩, e1, e2, e3, e0⟩
  · intro i hi
    obtain ⟨x, y, q1, q2, q3, q4⟩ := hx i (by omega)
    have f1 : qX m i = x := by unfold qX; rw [q1, iN_c (by omega)]
    have f2 : qY m i = y := by unfold qY; rw [q3, iN_c (by omega)]
    rw [f1, f2]
    exact ⟨⟨q1, q2⟩, q3, q4⟩
  · intro i j hi hj a b
    obtain ⟨x, y, q1, q2, q3, q4⟩ := hx i (by omega)
    obtain ⟨x', y', r1, r2, r3, r4⟩ := hx j (by omega)
    have f1 : qX m i = x := by unfold qX; rw [q1, iN_c (by omega)]
    have f2 : qY m i = y := by unfold qY; rw [q3, iN_c (by omega)]
    have g1 : qX m j = x' := by unfold qX; rw [r1, iN_c (by omega)]
    have g2 : qY m j = y' := by unfold qY; rw [r3, iN_c (by omega)]
    exact hu i j (by omega) (by omega) (by rw [q1, r1, ← f1, a, g1]) (by rw [q3, r3, ← f2, b, g2])
  · intro j hj
    obtain ⟨a, b, w, o, h, p1, p2, p3, p4, p5, p6, p7, p8, p9, p10, p11, p12⟩ := he j (by omega)
    have f1 : qA m j = a := by unfold qA; rw [p1, iN_c (by omega)]
    have f2 : qB m j = b := by unfold qB; rw [p3, iN_c (by omega)]
    have f3 : qW m j = w := by unfold qW; rw [p6, iN_c (by omega)]
    have f4 : qO m j = o := by unfold qO; rw [p9, iN_c (by omega)]
    have f5 : qH m j = h := by unfold qH; rw [p11, iN_c (by omega)]
    rw [f1, f2, f3, f4, f5]
    exact ⟨⟨p1, by omega⟩, ⟨p3, by omega⟩, p5, ⟨p6, p7, p8⟩, ⟨p9, p10⟩, p11, p12⟩
  · intro i hi
    obtain ⟨c, d, p1, p2, p3, p4⟩ := hk i (by omega)
    have f1 : qC m i = c := by unfold qC; rw [p1, iN_c (by omega)]
    have f2 : qD m i = d := by unfold qD; rw [p3, iN_c (by omega)]
    rw [f1, f2]
    exact ⟨⟨p1, by omega⟩, p3, p4⟩
section
variable {k : cx} {S T : hs} {m : Nat → Int32} {l : Lz}
theorem VM.x_ (v : VM m) : ∀ i, i < nCr m → ∃ x y : Nat, m (5 + 2 * i) = iN x ∧ x ≤ 9 ∧ m (6 + 2 * i) = iN y ∧ y ≤ 9 := fun i hi => ⟨_, _, (v.x hi).1.1, (v.x hi).1.2, (v.x hi).2.1, (v.x hi).2.2⟩
theorem VM.u_ (v : VM m) : ∀ i j, i < nCr m → j < nCr m → m (5 + 2 * i) = m (5 + 2 * j) → m (6 + 2 * i) = m (6 + 2 * j) → i = j := fun i j hi hj a b => v.u hi hj (by unfold qX; rw [a]) (by unfold qY; rw [b])
theorem VM.e_ (v : VM m) : ∀ j, j < nSt m → ∃ a b w o h : Nat, m (29 + 5 * j) = iN a ∧ a < nCr m ∧ m (30 + 5 * j) = iN b ∧ b < nCr m ∧ a ≠ b ∧ m (31 + 5 * j) = iN w ∧ 1 ≤ w ∧ w ≤ 9 ∧ m (32 + 5 * j) = iN o ∧ o ≤ 1 ∧ m (33 + 5 * j) = iN h ∧ h ≤ 1 := fun j hj =>
  have h := v.e hj
  ⟨_, _, _, _, _, h.1.1, h.1.2, h.2.1.1, h.2.1.2, h.2.2.1, h.2.2.2.1.1, h.2.2.2.1.2.1, h.2.2.2.1.2.2, h.2.2.2.2.1.1, h.2.2.2.2.1.2, h.2.2.2.2.2.1, h.2.2.2.2.2.2⟩
theorem VM.k_ (v : VM m) : ∀ i, i < nWk m → ∃ c d : Nat, m (129 + 3 * i) = iN c ∧ c < 2 * nSt m ∧ m (130 + 3 * i) = iN d ∧ d ≤ 9 := fun i hi => ⟨_, _, (v.k hi).1.1, (v.k hi).1.2, (v.k hi).2.1, (v.k hi).2.2⟩
theorem LwM.cg {m' : Nat → Int32} (h : LwM m l) (e : ∀ i, i = 4 ∨ 141 ≤ i ∧ i < 358 → m' i = m i) : LwM m' l := by
  obtain ⟨h1, h2, h3⟩ := h
  refine ⟨(e 4 (by omega)).trans h1, h2, fun k hk => ?_⟩
  obtain ⟨k1, k2, k3⟩ := h3 k hk
  refine ⟨(e _ (by omega)).trans k1, k2, ?_⟩
  intro T m0 hT hm a b w ha hb hw
  rw [e (341 + k) (by omega), e (342 + k) (by omega)]
  exact k3 T m0 hT (fun i h1 h2 => (hm i h1 h2).trans (e i (by omega))) a b w ha hb hw
theorem Inv.town (h : Inv k S) (e : ∀ a i, (a < 34 ∨ 80 < a) → a ≠ 192 → gI T a i = gI S a i) (f : ∀ a i, gJ T a i = gJ S a i) {m' : Nat → Int32} {l' : Lz} (ht : IvT T m' l') : Inv k T := by
  obtain ⟨-, hk, hr, hp, hh, hg, ha, hs, hi⟩ := h
  exact ⟨⟨m', l', ht⟩, hk.cg (fun a i q => e a i (by omega) (by omega)), hr.cg (fun a i q => e a i (by omega) (by omega)), hp.cg (fun a i q => e a i (by omega) (by omega)), hh.cg (fun a i q => e a i (by omega) (by omega)) (fun a i q1 q2 => f a i), hg.cg (fun a i q => e a i (by omega) (by omega)), ha.cg (fun a i q => e a i (by omega) (by omega)), hs.cg (fun a i q1 q2 => e a i (by omega) (by omega)), (e 191 3 (by omega) (by omega)).trans hi⟩
theorem tl0 : (0 : Int32).toInt = 0 := rfl
theorem tl1 : (1 : Int32).toInt = 1 := rfl
theorem tl2 : (2 : Int32).toInt = 2 := rfl
theorem tl3 : (3 : Int32).toInt = 3 := rfl
theorem tl4 : (4 : Int32).toInt = 4 := rfl
theorem tl5 : (5 : Int32).toInt = 5 := rfl
theorem tl6 : (6 : Int32).toInt = 6 := rfl
theorem tl8 : (8 : Int32).toInt = 8 := rfl
theorem tl9 : (9 : Int32).toInt = 9 := rfl
theorem tl10 : (10 : Int32).toInt = 10 := rfl
theorem tl12 : (12 : Int32).toInt = 12 := rfl
theorem tl14 : (14 : Int32).toInt = 14 := rfl
theorem tl15 : (15 : Int32).toInt = 15 := rfl
theorem tl20 : (20 : Int32).toInt = 20 := rfl
theorem tl30 : (30 : Int32).toInt = 30 := rfl
theorem tl39 : (39 : Int32).toInt = 39 := rfl
theorem tl40 : (40 : Int32).toInt = 40 := rfl
theorem tl200 : (200 : Int32).toInt = 200 := rfl
theorem is1 (h : Tn S m) (x : Int32) : f_M_is S x (1 : Int32) = some (bI (decide (0 ≤ x.toInt ∧ x.toInt < (nCr m : Int))), S) := pM_is (k := 1) (by omega) (by have := h.1.c.2; omega) h.c x
theorem is2 (h : Tn S m) (x : Int32) : f_M_is S x (2 : Int32) = some (bI (decide (0 ≤ x.toInt ∧ x.toInt < (nSt m : Int))), S) := pM_is (k := 2) (by omega) (by have := h.1.s.2; omega) h.s x
theorem is3 (h : Tn S m) (x : Int32) : f_M_is S x (3 : Int32) = some (bI (decide (0 ≤ x.toInt ∧ x.toInt < (nWk m : Int))), S) := pM_is (k := 3) (by omega) (by have := h.1.w.2; omega) h.w x
theorem in_y {x a b : Int32} {A B : Int} (ha : a.toInt = A) (hb : b.toInt = B) (h : A ≤ x.toInt ∧ x.toInt ≤ B) : f_M_in S x a b = some (1, S) := by
  rw [pM_in, ha, hb, decide_eq_true h]; rfl
theorem in_n {x a b : Int32} {A B : Int} (ha : a.toInt = A) (hb : b.toInt = B) (h : ¬ (A ≤ x.toInt ∧ x.toInt ≤ B)) : f_M_in S x a b = some (0, S) := by
  rw [pM_in, ha, hb, decide_eq_false h]; rfl
theorem q_day (h : Inv k S) (x : Int32) : Q2 k S (f_X_day S x) (fun T => f_M_day T x) := by
  obtain ⟨m, l, hc, hn, hlc, hlm⟩ := h.1
  by_cases q : 0 ≤ x.toInt ∧ x.toInt ≤ 6
  · obtain ⟨d, rfl, hd, ed⟩ := iN_of q.1
    have h1 : f_X_day S (iN d) = some (iN (nDy m), uI S 34 8 (iN d)) := by
      unfold f_X_day
      rw [if_neg (lt_n rfl tl0 (by omega)), if_pos (le_y rfl tl6 (by omega)), hc.d]
    have h2 : f_M_day (uI S 34 8 (iN d)) (iN d) = some (iN (nDy m), uI (uI S 34 8 (iN d)) 192 0 (iN d)) := by
      unfold f_M_day f_M_comes
      rw [in_y tl0 tl6 q, bd_s, if_neg (by decide), ck_of (by decide), show ((0 : Int32)).toNatClampNeg = 0 from rfl, bd_s, gI_ua (by decide), hn.at (by omega), hn.1.d.1]
    refine ⟨_, _, _, h1, h2, fun j => gI_ua (by decide), ?_⟩
    have e0 : ∀ i, i ≠ 0 → up1 m 0 (iN d) i = m i := fun i hi => up1_n hi
    obtain ⟨v', c1, c2, c3, c4⟩ := VM.of (m := up1 m 0 (iN d)) (nc := nCr m) (ns := nSt m) (nw := nWk m) (nd := d) (by rw [e0 _ (by omega)]; exact hn.1.c.1) hn.1.c.2 (by rw [e0 _ (by omega)]; exact hn.1.s.1) hn.1.s.2 (by rw [e0 _ (by omega)]; exact hn.1.w.1) hn.1.w.2 up1_s (by omega)
      (fun i hi => by rw [e0 _ (by omega), e0 _ (by omega)]; exact hn.1.x_ i hi) (fun i j hi hj => by rw [e0 _ (by omega), e0 _ (by omega), e0 _ (by omega), e0 _ (by omega)]; exact hn.1.u_ i j hi hj)
      (fun j hj => by rw [e0 _ (by omega), e0 _ (by omega), e0 _ (by omega), e0 _ (by omega), e0 _ (by omega)]; exact hn.1.e_ j hj) (fun i hi => by rw [e0 _ (by omega), e0 _ (by omega)]; exact hn.1.k_ i hi)
    refine h.town (m' := up1 m 0 (iN d)) (l' := l) (fun a i q1 q2 => by rw [gI_ua (by omega), gI_ua (by omega)]) (fun a i => rfl) ⟨⟨v', ?_⟩, ⟨v', fun i hi => ?_⟩, ?_, hlm.cg (fun i hi => e0 i (by omega))⟩
    · have eB : ∀ j, qB (up1 m 0 (iN d)) j = qB m j := fun j => by unfold qB; rw [e0 _ (by omega)]
      have eA : ∀ j, qA (up1 m 0 (iN d)) j = qA m j := fun j => by unfold qA; rw [e0 _ (by omega)]
      have eX : ∀ j, qX (up1 m 0 (iN d)) j = qX m j := fun j => by unfold qX; rw [e0 _ (by omega)]
      have eY : ∀ j, qY (up1 m 0 (iN d)) j = qY m j := fun j => by unfold qY; rw [e0 _ (by omega)]
      have eL : ∀ j, qL (up1 m 0 (iN d)) j = qL m j := fun j => by unfold qL; rw [eA, eB, eX, eX, eY, eY]
      have hc' := hc.2
      have b1 := hn.1.c.2
      have b2 := hn.1.s.2
      have b3 := hn.1.w.2
      unfold TB at hc' ⊢
      rw [c1, c2, c3]
      clear h1 h2 h v' c1 c2 c3 c4 hlc hlm
      obtain ⟨t1, t2, t3, t4, t5, t6, t7⟩ := hc'
      refine ⟨?_, ?_, ?_, ?_, fun i hi => ?_, fun j hj => ?_, fun i hi => ?_⟩
      · grind [up1, gI_u]
      · grind [up1, gI_u]
      · grind [up1, gI_u]
      · grind [up1, gI_u]
      · have := t5 i hi; grind (splits := 40) [up1, gI_u]
      · have := t6 j hj; grind (splits := 40) [up1, gI_u]
      · have := t7 i hi; grind (splits := 40) [up1, gI_u]
    · rw [gI_u]
      unfold up1
      by_cases q : i = 0
      · rw [if_pos ⟨rfl, q⟩, if_pos q]
      · rw [if_neg (fun z => q z.2), if_neg q, gI_ua (by decide)]; exact hn.at hi
    · refine hlc.cg ?_ ?_ ?_ ?_ ?_ ?_
      · show gI _ 74 5 = gI S 74 5; rw [gI_ua (by decide), gI_ua (by decide)]
      · intro i _; show gI _ 75 i = gI S 75 i; rw [gI_ua (by decide), gI_ua (by decide)]
      · intro i _; show gI _ 76 i = gI S 76 i; rw [gI_ua (by decide), gI_ua (by decide)]
      · intro i _; show gI _ 77 i = gI S 77 i; rw [gI_ua (by decide), gI_ua (by decide)]
      · intro i _; show gI _ 78 i = gI S 78 i; rw [gI_ua (by decide), gI_ua (by decide)]
      · intro i _; show gI _ 79 i = gI S 79 i; rw [gI_ua (by decide), gI_ua (by decide)]
  · refine Q2.same (r := -1) h ?_ ?_
    · unfold f_X_day
      by_cases q1 : x.toInt < 0
      · rw [if_pos (lt_y rfl tl0 q1)]
      · rw [if_neg (lt_n rfl tl0 (by omega)), if_neg (le_n rfl tl6 (by omega))]
    · show f_M_day S x = _
      unfold f_M_day
      rw [in_n tl0 tl6 q, bd_s, if_pos rfl]
end
