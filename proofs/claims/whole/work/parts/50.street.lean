/-! A street comes. -/
section
variable {k : cx} {S S1 S2 T : hs} {m m' : Nat → Int32} {l : Lz}
def mSt (m : Nat → Int32) (a b w o : Nat) : Nat → Int32 := up1 (up1 (up1 (up1 (up1 (up1 m (29 + 5 * nSt m) (iN a)) (30 + 5 * nSt m) (iN b)) (31 + 5 * nSt m) (iN w)) (32 + 5 * nSt m) (iN o)) (33 + 5 * nSt m) (iN 0)) 2 (iN (nSt m + 1))
theorem mSt_n {a b w o i : Nat} (h : i ≠ 2) (q : i < 29 + 5 * nSt m ∨ 34 + 5 * nSt m ≤ i) : mSt m a b w o i = m i := by
  unfold mSt
  rw [up1_n h, up1_n (by omega), up1_n (by omega), up1_n (by omega), up1_n (by omega), up1_n (by omega)]
theorem mSt_s {a b w o : Nat} : mSt m a b w o (29 + 5 * nSt m) = iN a ∧ mSt m a b w o (30 + 5 * nSt m) = iN b ∧ mSt m a b w o (31 + 5 * nSt m) = iN w ∧ mSt m a b w o (32 + 5 * nSt m) = iN o ∧ mSt m a b w o (33 + 5 * nSt m) = iN 0 ∧ mSt m a b w o 2 = iN (nSt m + 1) := by
  unfold mSt up1
  refine ⟨?_, ?_, ?_, ?_, ?_, ?_⟩ <;> grind
theorem VM.ss (v : VM m) {a b w o : Nat} (ha : a < nCr m) (hb : b < nCr m) (hab : a ≠ b) (w1 : 1 ≤ w) (w9 : w ≤ 9) (o1 : o ≤ 1) (hs : nSt m < 20) : VM (mSt m a b w o) ∧ nCr (mSt m a b w o) = nCr m ∧ nSt (mSt m a b w o) = nSt m + 1 ∧ nWk (mSt m a b w o) = nWk m ∧ nDy (mSt m a b w o) = nDy m := by
  have hc := v.c.2
  obtain ⟨s1, s2, s3, s4, s5, s6⟩ := mSt_s (m := m) (a := a) (b := b) (w := w) (o := o)
  refine VM.of (nc := nCr m) (ns := nSt m + 1) (nw := nWk m) (nd := nDy m) (by rw [mSt_n (by omega) (by omega)]; exact v.c.1) v.c.2 s6 (by omega) (by rw [mSt_n (by omega) (by omega)]; exact v.w.1) v.w.2 (by rw [mSt_n (by omega) (by omega)]; exact v.d.1) v.d.2 (fun i hi => ?_) (fun i j hi hj => ?_) (fun j hj => ?_) (fun i hi => ?_)
  · rw [mSt_n (by omega) (by omega), mSt_n (by omega) (by omega)]; exact v.x_ i hi
  · rw [mSt_n (by omega) (by omega), mSt_n (by omega) (by omega), mSt_n (by omega) (by omega), mSt_n (by omega) (by omega)]; exact v.u_ i j hi hj
  · by_cases q : j = nSt m
    · subst q; exact ⟨a, b, w, o, 0, s1, ha, s2, hb, hab, s3, w1, w9, s4, o1, s5, by omega⟩
    · rw [mSt_n (by omega) (by omega), mSt_n (by omega) (by omega), mSt_n (by omega) (by omega), mSt_n (by omega) (by omega), mSt_n (by omega) (by omega)]; exact v.e_ j (by omega)
  · rw [mSt_n (by omega) (by omega), mSt_n (by omega) (by omega)]
    obtain ⟨c, d, p1, p2, p3⟩ := v.k_ i hi
    exact ⟨c, d, p1, by omega, p3⟩
def cSt (S : hs) (m : Nat → Int32) (a b w o : Nat) : hs :=
  uI (uI (uI (uI (uI (uI (uI (uI (uI S (49 + nSt m) 0 (iN a)) (49 + nSt m) 1 (iN b)) (49 + nSt m) 2 (iN w)) (49 + nSt m) 3 (iN o)) (49 + nSt m) 6 (iN (qX m b) - iN (qX m a))) (49 + nSt m) 7 (iN (qY m b) - iN (qY m a))) (49 + nSt m) 4 (iN (dst (qX m b) (qX m a) + dst (qY m b) (qY m a)))) (49 + nSt m) 5 (iN 0)) 34 6 (iN (nSt m + 1))
theorem Tc.ss (h : Tc S m) {a b w o : Nat} (ha : a < nCr m) (hb : b < nCr m) (hab : a ≠ b) (w1 : 1 ≤ w) (w9 : w ≤ 9) (o1 : o ≤ 1) (hs : nSt m < 20) : Tc (cSt S m a b w o) (mSt m a b w o) := by
  obtain ⟨v', c1, c2, c3, c4⟩ := h.1.ss ha hb hab w1 w9 o1 hs
  refine ⟨v', ?_⟩
  have v := h.1
  have hw := v.w.2
  have hc := v.c.2
  obtain ⟨s1, s2, s3, s4, s5, s6⟩ := mSt_s (m := m) (a := a) (b := b) (w := w) (o := o)
  have g : ∀ x i, ¬ (x = 34 ∧ i = 6) → ¬ x = 49 + nSt m → gI (cSt S m a b w o) x i = gI S x i := fun x i h1 h2 => by unfold cSt; rw [gI_u, if_neg h1, gI_ua h2, gI_ua h2, gI_ua h2, gI_ua h2, gI_ua h2, gI_ua h2, gI_ua h2, gI_ua h2]
  obtain ⟨t1, t2, t3, t4, t5, t6, t7⟩ := h.2
  unfold TB
  rw [c1, c2, c3]
  refine ⟨?_, ?_, ?_, ?_, fun i hi => ?_, fun i hi => ?_, fun i hi => ?_⟩
  · show gI _ 34 5 = _; rw [g _ _ (by omega) (by omega), mSt_n (by omega) (by omega)]; exact t1
  · show gI _ 34 6 = _; rw [s6]; unfold cSt; rw [gI_us]
  · show gI _ 34 7 = _; rw [g _ _ (by omega) (by omega), mSt_n (by omega) (by omega)]; exact t3
  · show gI _ 34 8 = _; rw [g _ _ (by omega) (by omega), mSt_n (by omega) (by omega)]; exact t4
  · show gI _ (36 + i) 0 = _ ∧ gI _ (36 + i) 1 = _
    rw [g _ _ (by omega) (by omega), g _ _ (by omega) (by omega), mSt_n (by omega) (by omega), mSt_n (by omega) (by omega)]; exact t5 i hi
  · by_cases q : i = nSt m
    · subst q
      have fa : qA (mSt m a b w o) (nSt m) = a := by unfold qA; rw [s1, iN_c (by omega)]
      have fb : qB (mSt m a b w o) (nSt m) = b := by unfold qB; rw [s2, iN_c (by omega)]
      have fx : ∀ c, c < nCr m → qX (mSt m a b w o) c = qX m c ∧ qY (mSt m a b w o) c = qY m c := fun c hc => by unfold qX qY; rw [mSt_n (by omega) (by omega), mSt_n (by omega) (by omega)]; exact ⟨rfl, rfl⟩
      have fL : qL (mSt m a b w o) (nSt m) = dst (qX m b) (qX m a) + dst (qY m b) (qY m a) := by
        unfold qL; rw [fa, fb, (fx a ha).1, (fx a ha).2, (fx b hb).1, (fx b hb).2, dst_c, dst_c (qY m a)]
      rw [fa, fb, fL, s1, s2, s3, s4, s5, mSt_n (by omega) (by omega), mSt_n (by omega) (by omega), mSt_n (by omega) (by omega), mSt_n (by omega) (by omega), (v.x ha).1.1, (v.x ha).2.1, (v.x hb).1.1, (v.x hb).2.1]
      unfold cSt
      refine ⟨⟨?_, ?_, ?_, ?_, ?_⟩, ?_, ?_, ?_⟩ <;> simp only [gI_u] <;> grind
    · have hi : i < nSt m := by omega
      have hA := (v.e hi).1.2
      have hB := (v.e hi).2.1.2
      have t := t6 i hi
      simp only [] at t
      obtain ⟨ea, eb, eL⟩ := qL_cg (m' := mSt m a b w o) v hi (fun i q1 q2 => mSt_n (by omega) (by omega)) (mSt_n (by omega) (by omega)) (mSt_n (by omega) (by omega))
      rw [ea, eb, eL]
      simp only []
      rw [g (49 + i) 0 (by omega) (by omega), g (49 + i) 1 (by omega) (by omega), g (49 + i) 2 (by omega) (by omega), g (49 + i) 3 (by omega) (by omega), g (49 + i) 4 (by omega) (by omega), g (49 + i) 5 (by omega) (by omega), g (49 + i) 6 (by omega) (by omega), g (49 + i) 7 (by omega) (by omega), mSt_n (i := 29 + 5 * i) (by omega) (by omega), mSt_n (i := 30 + 5 * i) (by omega) (by omega), mSt_n (i := 31 + 5 * i) (by omega) (by omega), mSt_n (i := 32 + 5 * i) (by omega) (by omega), mSt_n (i := 33 + 5 * i) (by omega) (by omega), mSt_n (i := 5 + 2 * qB m i) (by omega) (by omega), mSt_n (i := 5 + 2 * qA m i) (by omega) (by omega), mSt_n (i := 6 + 2 * qB m i) (by omega) (by omega), mSt_n (i := 6 + 2 * qA m i) (by omega) (by omega)]
      exact t
  · show gI _ (70 + i) 0 = _ ∧ gI _ (70 + i) 1 = _ ∧ gI _ (70 + i) 2 = _
    rw [g _ _ (by omega) (by omega), g _ _ (by omega) (by omega), g _ _ (by omega) (by omega), mSt_n (by omega) (by omega), mSt_n (by omega) (by omega), mSt_n (by omega) (by omega)]; exact t7 i hi
theorem hc_y (h : Tc S m) {a : Nat} (ha : a < nCr m) : f_T_hasCrossing S (iN a) = some (1, S) := by
  have := h.1.c.2
  rw [pT_hasCrossing h, iN_i (by omega), decide_eq_true ⟨by omega, by omega⟩]; rfl
set_option maxHeartbeats 4000000 in
theorem pT_addStreet (h : Tc S m) {a b w o : Nat} (ha : a < nCr m) (hb : b < nCr m) (hs : nSt m < 20) (o1 : o ≤ 1) : f_T_addStreet S (iN a) (iN b) (iN w) (iN o) = some (iN (nSt m), cSt S m a b w o) := by
  have hc := h.1.c.2
  have n1 : 36 + a ≠ 49 + nSt m := by omega
  have n2 : 36 + b ≠ 49 + nSt m := by omega
  have n3 : 34 ≠ 49 + nSt m := by omega
  have xa := h.1.x ha
  have xb := h.1.x hb
  unfold f_T_addStreet cSt
  rw [h.s, if_neg (le_n tl20 (iN_i (by omega)) (by omega)), hc_y h ha, bd_s, if_neg (by decide), hc_y h hb, bd_s, if_neg (by decide), ck_of (iN_b (by omega) (by decide)), iN_c (by omega), iN_c (show a < 2147483648 by omega), iN_c (show b < 2147483648 by omega), show inb (iN a) 12 = true from iN_b (by omega) (by decide), show inb (iN b) 12 = true from iN_b (by omega) (by decide)]
  simp only [gI_ua n1, gI_ua n2, gI_ua n3, (h.x ha).1, (h.x ha).2, (h.x hb).1, (h.x hb).2, gI_un (show (6 : Nat) ≠ 7 by decide), gI_us, abs_d _ _ xb.1.2 xa.1.2, abs_d _ _ xb.2.2 xa.2.2, bd_s, ck_t, h.s, iN_a, iN_1]
  have : o = 0 ∨ o = 1 := by omega
  rcases this with rfl | rfl <;> rfl
theorem q_street (h : Inv k S) (x y w o : Int32) (ho : o = 0 ∨ o = 1) : Q2 k S (f_X_street S x y w o) (fun T => f_M_street T x y w o) := by
  obtain ⟨m, l, ht⟩ := h.1
  have hc := ht.1
  have hn := ht.2.1
  have hm := hc.1.c.2
  have hs := hc.1.s.2
  obtain ⟨o, o1, rfl⟩ : ∃ c : Nat, c ≤ 1 ∧ o = iN c := by
    rcases ho with rfl | rfl
    · exact ⟨0, by omega, rfl⟩
    · exact ⟨1, by omega, rfl⟩
  by_cases q1 : 0 ≤ x.toInt ∧ x.toInt < (nCr m : Int)
  · by_cases q2 : 0 ≤ y.toInt ∧ y.toInt < (nCr m : Int)
    · obtain ⟨a, rfl, ha, ea⟩ := iN_of q1.1
      obtain ⟨b, rfl, hb, eb⟩ := iN_of q2.1
      by_cases q3 : a = b
      · subst q3
        refine Q2.same (r := -1) h ?_ ?_
        · unfold f_X_street
          rw [hc_y hc (by omega), bd_s, if_neg (by decide), hc_y hc (by omega), bd_s, if_neg (by decide), if_pos rfl]
        · show f_M_street S _ _ _ _ = _
          unfold f_M_street
          rw [is1 hn, decide_eq_true q1, bd_s, if_bI, bt_t, is1 hn, decide_eq_true q2, bd_s, if_bI, bt_t, if_pos rfl]
      · have q3' : ¬ iN a = iN b := fun z => q3 ((iN_eq (by omega) (by omega)).mp z)
        by_cases q4 : 1 ≤ w.toInt ∧ w.toInt ≤ 9
        · obtain ⟨w, rfl, hw, ew⟩ := iN_of (show 0 ≤ w.toInt by omega)
          by_cases q5 : nSt m < 20
          · have h1 : f_X_street S (iN a) (iN b) (iN w) (iN o) = some (iN (nSt m), cSt S m a b w o) := by
              unfold f_X_street
              rw [hc_y hc (by omega), bd_s, if_neg (by decide), hc_y hc (by omega), bd_s, if_neg (by decide), if_neg q3', isWide_y q4, bd_s, if_neg (by decide), if_pos (lt_y (a := (nSt m : Int)) (by rw [hc.s]; exact iN_i (by omega)) tl20 (by omega)), pT_addStreet hc (by omega) (by omega) q5 o1, bd_s]
            have f1 : Fr (fun a => (34 ≤ a ∧ a < 74) ∨ Scr a) S (cSt S m a b w o) := by
              unfold cSt
              exact ((((((((Fr.rfl'.uI (Or.inl (by omega))).uI (Or.inl (by omega))).uI (Or.inl (by omega))).uI (Or.inl (by omega))).uI (Or.inl (by omega))).uI (Or.inl (by omega))).uI (Or.inl (by omega))).uI (Or.inl (by omega))).uI (Or.inl (by omega))
            have c1 := hc.ss (a := a) (b := b) (w := w) (o := o) (by omega) (by omega) q3 (by omega) (by omega) o1 q5
            have hn1 := hn.fr f1 (fun z => z.elim (by omega) (nScr (by omega)))
            generalize cSt S m a b w o = S1 at h1 f1 c1 hn1
            have ei : ∀ f : Nat, f < 5 → (29 : Int32) + (5 : Int32) * iN (nSt m) + iN f = iN (29 + f + 5 * nSt m) := fun f hf => by
              show iN 29 + iN 5 * iN _ + iN f = _
              rw [iN_m, iN_a, iN_a]; congr 1; omega
            have h2 : f_M_street S1 (iN a) (iN b) (iN w) (iN o) = some (iN (nSt m), uI (uI (uI (uI (uI (uI S1 192 (29 + 5 * nSt m) (iN a)) 192 (30 + 5 * nSt m) (iN b)) 192 (31 + 5 * nSt m) (iN w)) 192 (32 + 5 * nSt m) (iN o)) 192 (33 + 5 * nSt m) (iN 0)) 192 2 (iN (nSt m + 1))) := by
              unfold f_M_street
              rw [is1 hn1, decide_eq_true q1, bd_s, if_bI, bt_t, is1 hn1, decide_eq_true q2, bd_s, if_bI, bt_t, if_neg q3', in_y tl1 tl9 q4, bd_s, if_neg (by decide), hn1.s, if_neg (fun z => by have := (iN_eq (b := 20) (by omega) (by omega)).mp z; omega)]
              have z0 := ei 0 (by omega)
              have z1 := ei 1 (by omega)
              have z2 := ei 2 (by omega)
              have z3 := ei 3 (by omega)
              have z4 := ei 4 (by omega)
              rw [show (29 : Int32) + (5 : Int32) * iN (nSt m) + (0 : Int32) = _ from z0, show (29 : Int32) + (5 : Int32) * iN (nSt m) + (1 : Int32) = _ from z1, show (29 : Int32) + (5 : Int32) * iN (nSt m) + (2 : Int32) = _ from z2, show (29 : Int32) + (5 : Int32) * iN (nSt m) + (3 : Int32) = _ from z3, show (29 : Int32) + (5 : Int32) * iN (nSt m) + (4 : Int32) = _ from z4]
              rw [show inb (iN (29 + 0 + 5 * nSt m)) 358 = true from iN_b (by omega) (by decide), show inb (iN (29 + 1 + 5 * nSt m)) 358 = true from iN_b (by omega) (by decide), show inb (iN (29 + 2 + 5 * nSt m)) 358 = true from iN_b (by omega) (by decide), show inb (iN (29 + 3 + 5 * nSt m)) 358 = true from iN_b (by omega) (by decide), show inb (iN (29 + 4 + 5 * nSt m)) 358 = true from iN_b (by omega) (by decide), iN_c (by omega), iN_c (by omega), iN_c (by omega), iN_c (by omega), iN_c (by omega)]
              have n2 : ∀ x, x < 5 → 2 ≠ 29 + x + 5 * nSt m := fun x _ => by omega
              simp only [gI_un (n2 0 (by omega)), gI_un (n2 1 (by omega)), gI_un (n2 2 (by omega)), gI_un (n2 3 (by omega)), gI_un (n2 4 (by omega)), hn1.s, iN_1, ck_t]
              have : o = 0 ∨ o = 1 := by omega
              rcases this with rfl | rfl <;> rfl
            refine Q2.town h ht h1 c1 f1 h2 ⟨c1.1, fun p hp => ?_⟩ ((((((Fr.rfl'.uI (Or.inl rfl)).uI (Or.inl rfl)).uI (Or.inl rfl)).uI (Or.inl rfl)).uI (Or.inl rfl)).uI (Or.inl rfl)) (fun i hi => mSt_n (by omega) (by omega))
            rw [gI_u, gI_u, gI_u, gI_u, gI_u, gI_u]
            unfold mSt up1
            have := hn1.at hp
            grind
          · refine Q2.same (r := -2) h ?_ ?_
            · unfold f_X_street
              rw [hc_y hc (by omega), bd_s, if_neg (by decide), hc_y hc (by omega), bd_s, if_neg (by decide), if_neg q3', isWide_y q4, bd_s, if_neg (by decide), if_neg (lt_n (a := (nSt m : Int)) (by rw [hc.s]; exact iN_i (by omega)) tl20 (by omega))]
            · show f_M_street S _ _ _ _ = _
              unfold f_M_street
              rw [is1 hn, decide_eq_true q1, bd_s, if_bI, bt_t, is1 hn, decide_eq_true q2, bd_s, if_bI, bt_t, if_neg q3', in_y tl1 tl9 q4, bd_s, if_neg (by decide), if_pos (by rw [hn.s, show nSt m = 20 by omega]; rfl)]
        · refine Q2.same (r := -1) h ?_ ?_
          · unfold f_X_street
            rw [hc_y hc (by omega), bd_s, if_neg (by decide), hc_y hc (by omega), bd_s, if_neg (by decide), if_neg q3', isWide_n q4, bd_s, if_pos rfl]
          · show f_M_street S _ _ _ _ = _
            unfold f_M_street
            rw [is1 hn, decide_eq_true q1, bd_s, if_bI, bt_t, is1 hn, decide_eq_true q2, bd_s, if_bI, bt_t, if_neg q3', in_n tl1 tl9 q4, bd_s, if_pos rfl]
    · refine Q2.same (r := -1) h ?_ ?_
      · unfold f_X_street
        rw [pT_hasCrossing hc, decide_eq_true q1, bd_s, if_bI, bt_t, pT_hasCrossing hc, decide_eq_false q2, bd_s, if_bI, bt_f]
      · show f_M_street S _ _ _ _ = _
        unfold f_M_street
        rw [is1 hn, decide_eq_true q1, bd_s, if_bI, bt_t, is1 hn, decide_eq_false q2, bd_s, if_bI, bt_f]
  · refine Q2.same (r := -1) h ?_ ?_
    · unfold f_X_street
      rw [pT_hasCrossing hc, decide_eq_false q1, bd_s, if_bI, bt_f]
    · show f_M_street S _ _ _ _ = _
      unfold f_M_street
      rw [is1 hn, decide_eq_false q1, bd_s, if_bI, bt_f]
end
