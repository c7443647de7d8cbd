/-! Which street opened helps most. -/
def mOp (m : Nat → Int32) (s : Nat) : Nat → Int32 := up1 m (33 + 5 * s) (iN 0)
section
variable {k : cx} {S S1 S2 T : hs} {m m' : Nat → Int32} {l : Lz}
theorem mOp_n {s i : Nat} (h : i ≠ 33 + 5 * s) : mOp m s i = m i := up1_n h
theorem mOp_V (v : VM m) {s : Nat} (hs4 : s < nSt m) : VM (mOp m s) ∧ nCr (mOp m s) = nCr m ∧ nSt (mOp m s) = nSt m := by
  have e := v.e hs4
  obtain ⟨h1, h2, h3, -⟩ := v.st (m' := mOp m s) (a := qW m s) (b := 0) hs4 (fun i q1 q2 => mOp_n q2) (by rw [mOp_n (by omega)]; exact e.2.2.2.1.1) e.2.2.2.1.2.1 e.2.2.2.1.2.2 up1_s (by omega)
  exact ⟨h1, h2, h3⟩
theorem mOp_q (s j : Nat) : qA (mOp m s) j = qA m j ∧ qB (mOp m s) j = qB m j ∧ qW (mOp m s) j = qW m j ∧ qO (mOp m s) j = qO m j ∧ nSt (mOp m s) = nSt m ∧ nDy (mOp m s) = nDy m ∧ nCr (mOp m s) = nCr m := by
  unfold qA qB qW qO nSt nDy nCr
  rw [mOp_n (by omega), mOp_n (by omega), mOp_n (by omega), mOp_n (by omega), mOp_n (by omega), mOp_n (by omega), mOp_n (by omega)]
  exact ⟨rfl, rfl, rfl, rfl, rfl, rfl, rfl⟩
theorem mOp_w (s u : Nat) : wIs (mOp m s) u = wIs m u ∧ enn (mOp m s) u = enn m u ∧ bgn (mOp m s) u = bgn m u := by
  obtain ⟨a, b, c, d, e, -⟩ := mOp_q (m := m) s (u / 2)
  unfold wIs enn bgn
  rw [a, b, d, e]
  exact ⟨rfl, rfl, rfl⟩
theorem mOp_x (s : Nat) {c : Nat} (hc : c < 12) : qX (mOp m s) c = qX m c ∧ qY (mOp m s) c = qY m c := by
  unfold qX qY
  rw [mOp_n (by omega), mOp_n (by omega)]
  exact ⟨rfl, rfl⟩
theorem mOp_k (v0 : VM m) (s u v : Nat) : wkd (mOp m s) u v = wkd m u v := by
  have hcc := v0.c.2
  unfold wkd
  rw [(mOp_w s u).1, (mOp_w s v).1, (mOp_w s u).2.1, (mOp_w s v).2.2]
  by_cases q : wIs m u = true ∧ wIs m v = true ∧ enn m u = bgn m v
  · rw [if_pos q, if_pos q]
    have a1 := enn_lt v0 (wIs_lt q.1)
    have a2 := bgn_lt v0 (wIs_lt q.1)
    have a3 := enn_lt v0 (wIs_lt q.2.1)
    have a4 := bgn_lt v0 (wIs_lt q.2.1)
    unfold kq aX aY
    rw [(mOp_w s u).2.1, (mOp_w s v).2.1, (mOp_w s u).2.2, (mOp_w s v).2.2, (mOp_x s (show enn m u < 12 by omega)).1, (mOp_x s (show enn m u < 12 by omega)).2, (mOp_x s (show enn m v < 12 by omega)).1, (mOp_x s (show enn m v < 12 by omega)).2, (mOp_x s (show bgn m u < 12 by omega)).1, (mOp_x s (show bgn m u < 12 by omega)).2, (mOp_x s (show bgn m v < 12 by omega)).1, (mOp_x s (show bgn m v < 12 by omega)).2]
  · rw [if_neg q, if_neg q]
theorem mOp_g (v0 : VM m) (s u v w : Nat) : mgW (mOp m s) l u v w = mgW m l u v w := by
  have hcc := v0.c.2
  by_cases q : wkd m u v = 0
  · rw [mgW_0 q, mgW_0 (by rw [mOp_k v0]; exact q)]
  · have hv : v < 2 * nSt m := Classical.byContradiction fun z => q (wkd_v z)
    have e := v0.e (half_lt hv)
    have eL : qL (mOp m s) (v / 2) = qL m (v / 2) := by
      unfold qL
      rw [(mOp_q s (v / 2)).1, (mOp_q s (v / 2)).2.1, (mOp_x s (show qA m (v / 2) < 12 by omega)).1, (mOp_x s (show qA m (v / 2) < 12 by omega)).2, (mOp_x s (show qB m (v / 2) < 12 by omega)).1, (mOp_x s (show qB m (v / 2) < 12 by omega)).2]
    have ef : fcs (mOp m s) u v w = fcs m u v w := by
      funext i
      unfold fcs
      rw [(mOp_q s (v / 2)).2.2.1, (mOp_q s (u / 2)).2.2.1, eL, (mOp_q (m := m) s 0).2.2.2.2.2.1, (mOp_w s u).2.1]
    unfold mgW
    rw [mOp_k v0, ef, (mOp_q s (u / 2)).2.2.1, (mOp_q s (v / 2)).2.2.1]
theorem mOp_c (v0 : VM m) {s : Nat} (hs4 : s < nSt m) (u : Nat) : cIs (mOp m s) u = (cIs m u || (decide (u / 2 = s) && wIs m u)) := by
  unfold cIs
  rw [(mOp_w s u).1]
  by_cases z : u / 2 = s
  · have e : qH (mOp m s) (u / 2) = 0 := by unfold qH; rw [z]; show (up1 m _ _ _).toNatClampNeg = 0; rw [up1_s]; rfl
    rw [e, z]
    cases wIs m u <;> simp
  · have e : qH (mOp m s) (u / 2) = qH m (u / 2) := by unfold qH; rw [mOp_n (by omega)]
    rw [e]
    simp [z]
theorem mOp_Z (s u : Nat) (E : Nat → Nat → Bool) (C : Nat → Bool) : endZ (mOp m s) E C u = endZ m E C u := by
  have e : ∀ Y, IsEE (mOp m s) E C u Y ↔ IsEE m E C u Y := fun Y => by
    unfold IsEE
    simp only [(mOp_q (m := m) s 0).2.2.2.2.1, (mOp_w s _).2.1]
  by_cases h : ∃ Y, IsEE m E C u Y
  · obtain ⟨Y, hY⟩ := h
    rw [← hY.z, ← ((e Y).mpr hY).z]
  · have h' : ¬ ∃ Y, IsEE (mOp m s) E C u Y := fun ⟨Y, hY⟩ => h ⟨Y, (e Y).mp hY⟩
    unfold endZ
    rw [dif_neg h, dif_neg h']
/-- pairs, if a street were open -/
noncomputable def pvO (m : Nat → Int32) (E : Nat → Nat → Bool) (s : Nat) : Int32 := fo (gP m E (cIs (mOp m s))) (2 * nSt m) 0 0
noncomputable def opF (m : Nat → Int32) (E : Nat → Nat → Bool) : Nat → Nat → Int32 → Option Nat → Int32 × Option Nat
  | 0, _, a, b => (a, b)
  | r + 1, s, a, b => if qH m s = 0 then opF m E r (s + 1) a b else (if pvO m E s ≤ a then opF m E r (s + 1) a b else opF m E r (s + 1) (pvO m E s) (some s))
def oC (d : Int32) (b : Option Nat) : Int32 := match b with
  | none => d
  | some s => iN s
theorem fo_nn (v0 : VM m) {E : Nat → Nat → Bool} {C : Nat → Bool} (hZ : ∀ u, C u = true → IsEE m E C u (endZ m E C u)) : ∀ (r u a : Nat), u + r ≤ 40 → a ≤ 12 * u → ∃ b : Nat, fo (gP m E C) r u (iN a) = iN b ∧ b ≤ 480 := by
  intro r
  induction r with
  | zero => intro u a h1 h2; exact ⟨a, rfl, by omega⟩
  | succ r ih =>
    intro u a h1 h2
    rw [fo]
    by_cases q : C u = true
    · obtain ⟨x, e1, e2⟩ := endZ_s v0 (hZ u q)
      have e3 := pcn_a e2
      rw [show gP m E C u (iN a) = iN a + bcI (endZ m E C u) from if_pos q, e1, e3.1, iN_a]
      exact ih (u + 1) _ (by omega) (by omega)
    · rw [show gP m E C u (iN a) = iN a from if_neg q]
      exact ih (u + 1) a (by omega) (by omega)
theorem th_ok (v0 : VM m) {s : Nat} (hs4 : s < nSt m) {E : Nat → Nat → Bool} (hW : Wy S m E) : (∀ v, v < 64 → jb ((gJ S 138 8) ||| ((gJ S 138 9) &&& ((3 : Int64) <<< (((2 : Int32) * iN s).toInt64 &&& 63)))) v = cIs (mOp m s) v) ∧ ((gJ S 138 9) &&& ((3 : Int64) <<< (((2 : Int32) * iN s).toInt64 &&& 63)) = 0 ↔ qH m s = 0) := by
  have hss := v0.s.2
  have e2 : (2 : Int32) * iN s = iN (2 * s) := by show iN 2 * iN _ = _; rw [iN_m]
  have b3 : ∀ v, v < 64 → jb ((3 : Int64) <<< ((iN (2 * s)).toInt64 &&& 63)) v = (decide (v = 2 * s) || decide (v = 2 * s + 1)) := fun v hv => by
    have e : ((3 : Int64) <<< ((iN (2 * s)).toInt64 &&& 63)).toBitVec = (3#64) <<< (((iN (2 * s)).toInt64 &&& 63).toBitVec.smod 64) := rfl
    have e3 : ∀ i, i < 64 → (3#64).getLsbD i = (decide (i = 0) || decide (i = 1)) := by decide
    unfold jb
    rw [e, BitVec.shiftLeft_eq', s64 (2 * s) (by omega), BitVec.getLsbD_shiftLeft]
    by_cases z : v < 2 * s
    · have h1 : ¬ v = 2 * s := by omega
      have h2 : ¬ v = 2 * s + 1 := by omega
      simp [z, h1, h2]
    · rw [e3 (v - 2 * s) (by omega)]
      have h1 : (v - 2 * s = 0) ↔ v = 2 * s := by omega
      have h2 : (v - 2 * s = 1) ↔ v = 2 * s + 1 := by omega
      simp [z, hv, h1, h2]
  have hq := (v0.e hs4).2.2.2.2.2.2
  rw [e2]
  constructor
  · intro v hv
    rw [jb_or, jb_and, hW.1.2.2.2.1 v hv, hW.1.2.2.2.2 v hv, b3 v hv, mOp_c v0 hs4]
    have h1 : (v / 2 = s) ↔ (v = 2 * s ∨ v = 2 * s + 1) := by omega
    by_cases z : v / 2 = s
    · have z' := h1.mp z
      cases h2 : cIs m v <;> cases h3 : wIs m v <;> simp [z] <;> omega
    · have za : ¬ v = 2 * s := by omega
      have zb : ¬ v = 2 * s + 1 := by omega
      simp [z, za, zb]
  · have w2 : wIs m (2 * s) = true := by
      unfold wIs
      simp [hs4]
    constructor
    · intro h
      have : jb ((gJ S 138 9) &&& ((3 : Int64) <<< ((iN (2 * s)).toInt64 &&& 63))) (2 * s) = jb 0 (2 * s) := by rw [h]
      rw [jb_and, hW.1.2.2.2.2 _ (by omega), b3 _ (by omega), jb_0, w2] at this
      simp at this
      unfold cIs at this
      rw [w2, show 2 * s / 2 = s by omega] at this
      simpa using this
    · intro h
      apply jb_ext
      intro v hv
      rw [jb_and, hW.1.2.2.2.2 v hv, b3 v hv, jb_0]
      by_cases z : v / 2 = s
      · unfold cIs
        rw [z, h]
        cases wIs m v <;> simp
      · have za : ¬ v = 2 * s := by omega
        have zb : ¬ v = 2 * s + 1 := by omega
        simp [za, zb]
theorem wo_l {E : Nat → Nat → Bool} (hW : Wy S m E) (v0 : VM m) (hE : ∀ u v, E u v = true → v < 2 * nSt m) : ∀ (r s n : Nat) (a : Int32) (b : Option Nat), s + r = nSt m → r < n → 0 ≤ a.toInt → lp_W_bestToOpen_14 n S a (oC (-3) b) (iN s) = some (oC (-3) (opF m E r s a b).2, S) := by
  have hss := v0.s.2
  intro r
  induction r with
  | zero =>
    intro s n a b hs4 hn ha
    obtain ⟨n, rfl⟩ : ∃ q, n = q + 1 := ⟨n - 1, by omega⟩
    have e2 : (2 : Int32) * iN s = iN (2 * s) := by show iN 2 * iN _ = _; rw [iN_m]
    rw [lp_W_bestToOpen_14, hW.1.1, e2, if_pos ((iN_le (by omega) (by omega)).mpr (by omega))]; rfl
  | succ r ih =>
    intro s n a b hs4 hn ha
    obtain ⟨n, rfl⟩ : ∃ q, n = q + 1 := ⟨n - 1, by omega⟩
    have e2 : (2 : Int32) * iN s = iN (2 * s) := by show iN 2 * iN _ = _; rw [iN_m]
    obtain ⟨t1, t2⟩ := th_ok v0 (show s < nSt m by omega) hW
    rw [lp_W_bestToOpen_14, hW.1.1, if_neg (fun z => by rw [e2] at z; have := (iN_le (by omega) (by omega)).mp z; omega), iN_1, opF]
    by_cases q : qH m s = 0
    · rw [if_pos ((lg0 _ _).mpr (t2.mpr q)), if_pos (le_y tl0 rfl ha), if_pos q]
      exact ih (s + 1) n a b (by omega) (by omega) ha
    · rw [if_neg (fun z => q (t2.mp ((lg0 _ _).mp z))), if_neg q, W_pairs hW v0 t1 hE, bd_s]
      by_cases q2 : pvO m E s ≤ a
      · rw [if_pos (show fo _ _ _ _ ≤ a from q2), if_pos q2]
        exact ih (s + 1) n a b (by omega) (by omega) ha
      · rw [if_neg (show ¬ fo _ _ _ _ ≤ a from q2), if_neg q2]
        have : 0 ≤ (pvO m E s).toInt := by
          have := Int32.not_le.mp q2
          have := Int32.lt_iff_toInt_lt.mp this
          omega
        exact ih (s + 1) n (pvO m E s) (some s) (by omega) (by omega) this
theorem mo_step (hn : Tn S m) (hlm : LwM m l) (hi : gI S 191 3 = -1) {w : Nat} (hw : w ≤ 9) {s : Nat} (hs4 : s < nSt m) (hq : qH m s = 1) : ∃ U, f_M_pairsBy (uI S 192 (33 + 5 * s) (0 : Int32)) (iN w) = some (pvO m (fun u v => mgW m l u v w) s, U) ∧ Fr OnP S (uI U 192 (33 + 5 * s) (1 : Int32)) := by
  have hss := hn.1.s.2
  obtain ⟨v1, v2, v3⟩ := mOp_V hn.1 hs4
  have n1 : Tn (uI S 192 (33 + 5 * s) (0 : Int32)) (mOp m s) := hn.up (v := iN 0) v1
  have lm : LwM (mOp m s) l := hlm.cg (fun i hi => mOp_n (by omega))
  obtain ⟨U, h1, h2, h3⟩ := pM_findOnto (PrM.law (m := mOp m s) (l := l) hw lm) (S := uI S 192 (33 + 5 * s) (0 : Int32)) ⟨n1, by rw [gI_ua (by omega)]; exact hi⟩
  have n2 : Tn U (mOp m s) := n1.fr h2 (nOn (by omega))
  refine ⟨U, ?_, fun a na => ⟨fun i => ?_, fun i => (h2 a na).2 i⟩⟩
  · unfold f_M_pairsBy
    rw [h1, bd_s, M_pairs (E := fun u v => mgW (mOp m s) l u v w) n2 h3 (Z_of n2 h3), v3]
    have e : gP (mOp m s) (fun u v => mgW (mOp m s) l u v w) (cIs (mOp m s)) = gP m (fun u v => mgW m l u v w) (cIs (mOp m s)) := by
      funext u a
      unfold gP
      rw [mOp_Z, show (fun u v => mgW (mOp m s) l u v w) = fun u v => mgW m l u v w from funext fun u => funext fun v => mOp_g hn.1 s u v w]
    rw [e]; rfl
  · rw [gI_u]
    by_cases z : a = 192 ∧ i = 33 + 5 * s
    · rw [if_pos z, z.1, z.2, hn.at (by omega), (hn.1.e hs4).2.2.2.2.2.1, hq]; rfl
    · rw [if_neg z, (h2 a na).1, gI_u, if_neg z]
theorem mo_l (v0 : VM m) (hlm : LwM m l) {w : Nat} (hw : w ≤ 9) {K : hs → Int32 → Int32 → Int32 → Option (Int32 × hs)} : ∀ (r s n : Nat) (a : Int32) (b : Option Nat) (T : hs), Tn T m → gI T 191 3 = -1 → s + r = nSt m → r < n → ∃ U a', lp_M_opened_20 (iN w) K n T a (oC (-1) b) (iN s) = K U a' (oC (-1) (opF m (fun u v => mgW m l u v w) r s a b).2) (iN (nSt m)) ∧ Fr OnP T U := by
  have hss := v0.s.2
  intro r
  induction r with
  | zero =>
    intro s n a b T hn hi hs4 hk
    obtain ⟨n, rfl⟩ : ∃ q, n = q + 1 := ⟨n - 1, by omega⟩
    obtain rfl : s = nSt m := by omega
    refine ⟨T, a, ?_, Fr.rfl'⟩
    rw [lp_M_opened_20, hn.s, if_pos ((iN_le (by omega) (by omega)).mpr (by omega))]; rfl
  | succ r ih =>
    intro s n a b T hn hi hs4 hk
    obtain ⟨n, rfl⟩ : ∃ q, n = q + 1 := ⟨n - 1, by omega⟩
    have hs5 : s < nSt m := by omega
    have e1 : (29 : Int32) + (5 : Int32) * iN s + (4 : Int32) = iN (33 + 5 * s) := by
      show iN 29 + iN 5 * iN s + iN 4 = _
      rw [iN_m, iN_a, iN_a]; congr 1; omega
    have hq := (v0.e hs5).2.2.2.2.2
    rw [lp_M_opened_20, hn.s, if_neg (fun z => by have := (iN_le (by omega) (by omega)).mp z; omega), e1, ck_of (iN_b (by omega) (by decide)), iN_c (by omega), hn.at (by omega), hq.1, iN_1, opF]
    by_cases q : qH m s = 0
    · rw [if_neg (by rw [q]; decide), if_pos q]
      exact ih (s + 1) n a b T hn hi (by omega) (by omega)
    · have q1 : qH m s = 1 := by omega
      rw [if_pos (by rw [q1]; rfl), if_neg q]
      obtain ⟨U, h1, h2⟩ := mo_step hn hlm hi hw hs5 q1
      rw [h1, bd_s]
      have n2 : Tn (uI U 192 (33 + 5 * s) (1 : Int32)) m := hn.fr h2 (nOn (by omega))
      have i2 : gI (uI U 192 (33 + 5 * s) (1 : Int32)) 191 3 = -1 := ((h2 191 (nOn (by omega))).1 3).trans hi
      by_cases q2 : pvO m (fun u v => mgW m l u v w) s ≤ a
      · rw [if_pos q2, if_pos q2]
        obtain ⟨V, a', h3, h4⟩ := ih (s + 1) n a b _ n2 i2 (by omega) (by omega)
        exact ⟨V, a', h3, h2.trans h4⟩
      · rw [if_neg q2, if_neg q2]
        obtain ⟨V, a', h3, h4⟩ := ih (s + 1) n (pvO m (fun u v => mgW m l u v w) s) (some s) _ n2 i2 (by omega) (by omega)
        exact ⟨V, a', h3, h2.trans h4⟩
theorem opF_r {E : Nat → Nat → Bool} : ∀ (r s : Nat) (a : Int32) (b : Option Nat), (∀ t, b = some t → t < s) → ∀ t, (opF m E r s a b).2 = some t → t < s + r := by
  intro r
  induction r with
  | zero => intro s a b hb t h; exact hb t h
  | succ r ih =>
    intro s a b hb t h
    rw [opF] at h
    split at h
    · have := ih (s + 1) a b (fun t h => by have := hb t h; omega) t h; omega
    · split at h
      · have := ih (s + 1) a b (fun t h => by have := hb t h; omega) t h; omega
      · have := ih (s + 1) _ (some s) (fun t h => by cases h; omega) t h; omega
theorem q_opened (h : Inv k S) (y : Int32) : Q2 k S (f_X_opened S y) (fun T => f_M_opened T y) := by
  obtain ⟨m, l, ht⟩ := h.1
  have hss := ht.1.1.s.2
  by_cases q1 : 0 ≤ y.toInt ∧ y.toInt ≤ 9
  · obtain ⟨w, rfl, hw, ew⟩ := iN_of q1.1
    have hw9 : w ≤ 9 := by omega
    obtain ⟨S1, a1, a2, a3⟩ := prep2 h ht (w := w) hw9
    have ht1 := ht.fr a2
    obtain ⟨S2, c1, c2, c3, c4⟩ := onto2 (fr3 h a2) ht1 (w := w) hw9
    have ht2 := ht1.fr c2
    let E := fun u v => mgW m l u v w
    let P0 := fo (gP m E (cIs m)) (2 * nSt m) 0 0
    have hP : f_W_countPairs S1 (gJ S1 138 8) = some (P0, S1) := W_pairs a3 ht.1.1 a3.1.2.2.2.1 (fun u v h => mgW_v h)
    have hP2 : lp_M_pairsBy_10 1000 S2 (0 : Int32) (0 : Int32) = some (P0, S2) := M_pairs (E := E) c4 c3 (Z_of c4 c3)
    obtain ⟨p, ep, hp⟩ := fo_nn ht.1.1 (E := E) (C := cIs m) (Z_of c4 c3) (2 * nSt m) 0 0 (by omega) (by omega)
    have ep : P0 = iN p := ep
    obtain ⟨S3, a', d1, d2⟩ := mo_l ht.1.1 ht2.2.2.2 hw9 (K := fun (S15 : hs) (y16 : Int32) (y17 : Int32) (y18 : Int32) => (if 0 ≤ y17 then some (y17, S15) else some ((-3 : Int32), S15))) (nSt m) 0 1000 P0 none S2 c4 (fr3 h (a2.trans c2)) (by omega) (by omega)
    refine Q2.fr (r := oC (-3) (opF m E (nSt m) 0 P0 none).2) h ?_ ?_ a2 (c2.trans (d2.mono onScr))
    · unfold f_X_opened f_W_bestToOpen
      have e := wo_l a3 ht.1.1 (fun u v h => mgW_v h) (nSt m) 0 1000 P0 none (by omega) (by omega) (by rw [ep, iN_i (by omega)]; omega)
      rw [(isWidth_y q1).1, bd_s, if_neg (by decide), a1, bd_s, hP, bd_s]
      refine Eq.trans (congrArg (fun o => bd o _) e) ?_
      rw [bd_s]
    · show f_M_opened S1 _ = _
      unfold f_M_opened f_M_pairsBy
      rw [(isWidth_y q1).2, bd_s, if_neg (by decide), c1, bd_s, hP2, bd_s]
      refine Eq.trans d1 ?_
      have hr := opF_r (m := m) (E := E) (nSt m) 0 P0 none (fun t h => by cases h)
      show (if 0 ≤ oC (-1) (opF m E (nSt m) 0 P0 none).2 then some (oC (-1) (opF m E (nSt m) 0 P0 none).2, S3) else some ((-3 : Int32), S3)) = _
      cases hb : (opF m E (nSt m) 0 P0 none).2 with
      | none => rfl
      | some t =>
        have := hr t hb
        show (if 0 ≤ iN t then some (iN t, S3) else _) = some (iN t, S3)
        rw [if_pos (le_y tl0 (iN_i (by omega)) (by omega))]
  · refine Q2.same (r := -1) h ?_ ?_
    · unfold f_X_opened
      rw [(isWidth_n q1).1, bd_s, if_pos rfl]
    · show f_M_opened S _ = _
      unfold f_M_opened
      rw [(isWidth_n q1).2, bd_s, if_pos rfl]
end
