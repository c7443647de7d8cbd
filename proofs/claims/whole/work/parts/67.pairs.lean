/-! Reach, pairs, never, parts, other. -/
def fo (g : Nat → Int32 → Int32) : Nat → Nat → Int32 → Int32
  | 0, _, a => a
  | k + 1, i, a => fo g k (i + 1) (g i a)
theorem fo_more {g : Nat → Int32 → Int32} : ∀ (j k i : Nat) (a : Int32), (∀ x, i + j ≤ x → x < i + j + k → ∀ a, g x a = a) → fo g (j + k) i a = fo g j i a := by
  intro j
  induction j with
  | zero =>
    intro k
    induction k with
    | zero => intro i a _; rfl
    | succ k ih =>
      intro i a h
      show fo g (0 + k + 1) i a = a
      rw [fo, h i (by omega) (by omega)]
      exact ih (i + 1) a (fun x h1 h2 => h x (by omega) (by omega))
  | succ j ih =>
    intro k i a h
    rw [show j + 1 + k = j + k + 1 by omega, fo, fo]
    exact ih k (i + 1) _ (fun x h1 h2 => h x (by omega) (by omega))
section
variable {k : cx} {S S1 S2 T : hs} {m m' : Nat → Int32} {l : Lz}
theorem wzScr : ∀ a, WzP a → Scr a := fun a h => by unfold WzP WyP at h; unfold Scr; omega
theorem onScr : ∀ a, OnP a → Scr a := fun a h => by unfold OnP at h; unfold Scr; omega
theorem mgW_v {u v w : Nat} (h : mgW m l u v w = true) : v < 2 * nSt m := by
  refine Classical.byContradiction fun z => ?_
  rw [mgW_0 (wkd_v z)] at h; exact absurd h (by decide)
theorem prep2 (h : Inv k S) (ht : IvT S m l) {w : Nat} (hw : w ≤ 9) : ∃ S1, f_W_prepare_34 S (iN w) (-1 : Int32) = some (0, S1) ∧ Fr Scr S S1 ∧ Wy S1 m (fun u v => mgW m l u v w) := by
  obtain ⟨S1, h1, h2, h3⟩ := pW_prepare (PrB.law (m := m) (l := l) hw) ht.1 ht.2.2.1
  exact ⟨S1, h1, h2.mono wzScr, h3⟩
theorem onto2 (hi : gI S 191 3 = -1) (ht : IvT S m l) {w : Nat} (hw : w ≤ 9) : ∃ S2, f_M_findOnto S (iN w) (0 : Int32) = some (0, S2) ∧ Fr Scr S S2 ∧ On S2 (fun u v => mgC m l u v w) ∧ Tn S2 m := by
  obtain ⟨S2, h1, h2, h3⟩ := pM_findOnto (PrM.law (m := m) (l := l) hw ht.2.2.2) (S := S) ⟨ht.2.1, hi⟩
  exact ⟨S2, h1, h2.mono onScr, h3, ht.2.1.fr h2 (nOn (by omega))⟩
theorem Inv.i3 (h : Inv k S) : gI S 191 3 = -1 := h.2.2.2.2.2.2.2.2
theorem fr3 (h : Inv k S) (f : Fr Scr S T) : gI T 191 3 = -1 := ((f 191 (nScr (by omega))).1 3).trans h.i3
theorem q_reach (h : Inv k S) (x y : Int32) : Q2 k S (f_X_reach S x y) (fun T => f_M_reach T x y) := by
  obtain ⟨m, l, ht⟩ := h.1
  have hc := ht.1
  have hn := ht.2.1
  by_cases q : cIx m x = true
  · obtain ⟨u, rfl, cu, hu, h40⟩ := cIx_e hc.1 q
    by_cases q1 : 0 ≤ y.toInt ∧ y.toInt ≤ 9
    · obtain ⟨w, rfl, hw, ew⟩ := iN_of q1.1
      obtain ⟨S1, a1, a2, a3⟩ := prep2 h ht (w := w) (by omega)
      obtain ⟨X, b1, b2, b3, b4⟩ := W_ends a3 hc.1 (there := gJ S1 138 8) (C := cIs m) a3.1.2.2.2.1 hu (fun u v h => mgW_v h)
      have ht1 := ht.fr a2
      obtain ⟨S2, c1, c2, c3, c4⟩ := onto2 (fr3 h a2) ht1 (w := w) (by omega)
      obtain ⟨X', d1, d2, d3⟩ := M_ends (E := fun u v => mgW m l u v w) c4 c3 cu
      refine Q2.fr (r := endZ m (fun u v => mgW m l u v w) (cIs m) u) h ?_ ?_ a2 c2
      · unfold f_X_reach f_W_crossingsFrom
        rw [pT_hasCourse hc, q, bd_s, if_bI, bt_t, (isWidth_y q1).1, bd_s, if_neg (by decide), a1, bd_s, b1, bd_s, b3, bd_s, bd_s]
      · show f_M_reach S1 _ _ = _
        unfold f_M_reach
        rw [pM_isCourse ht1.2.1, q, bd_s, if_bI, bt_t, (isWidth_y q1).2, bd_s, if_neg (by decide), c1, bd_s, d1, bd_s, d3, bd_s]
    · refine Q2.same (r := -1) h ?_ ?_
      · unfold f_X_reach
        rw [pT_hasCourse hc, q, bd_s, if_bI, bt_t, (isWidth_n q1).1, bd_s, if_pos rfl]
      · show f_M_reach S _ _ = _
        unfold f_M_reach
        rw [pM_isCourse hn, q, bd_s, if_bI, bt_t, (isWidth_n q1).2, bd_s, if_pos rfl]
  · have q := Bool.eq_false_iff.mpr q
    refine Q2.same (r := -1) h ?_ ?_
    · unfold f_X_reach
      rw [pT_hasCourse hc, q, bd_s, if_bI, bt_f]
    · show f_M_reach S _ _ = _
      unfold f_M_reach
      rw [pM_isCourse hn, q, bd_s, if_bI, bt_f]
/-- pairs: what each course adds -/
noncomputable def gP (m : Nat → Int32) (E : Nat → Nat → Bool) (C : Nat → Bool) (u : Nat) (a : Int32) : Int32 := if C u = true then a + bcI (endZ m E C u) else a
theorem cp_l {E : Nat → Nat → Bool} (hW : Wy S m E) (v0 : VM m) {there : Int64} {C : Nat → Bool} (hC : ∀ v, v < 64 → jb there v = C v) (hE : ∀ u v, E u v = true → v < 2 * nSt m) : ∀ (r u n : Nat) (acc : Int32), u + r = 2 * nSt m → r < n → lp_W_countPairs_5 there n S acc (iN u) = some (fo (gP m E C) r u acc, S) := by
  have hss := v0.s.2
  intro r
  induction r with
  | zero =>
    intro u n acc hu hn
    obtain ⟨n, rfl⟩ : ∃ q, n = q + 1 := ⟨n - 1, by omega⟩
    rw [lp_W_countPairs_5, hW.1.1, if_pos ((iN_le (by omega) (by omega)).mpr (by omega))]; rfl
  | succ r ih =>
    intro u n acc hu hn
    obtain ⟨n, rfl⟩ : ∃ q, n = q + 1 := ⟨n - 1, by omega⟩
    rw [lp_W_countPairs_5, hW.1.1, if_neg (fun z => by have := (iN_le (by omega) (by omega)).mp z; omega), pX_isIn (by omega), bd_s, if_bI, iN_1, hC u (by omega), fo]
    cases q : C u with
    | false =>
      rw [bt_f, show gP m E C u acc = acc from if_neg (by rw [q]; decide)]
      exact ih (u + 1) n acc (by omega) (by omega)
    | true =>
      obtain ⟨X, b1, b2, b3, b4⟩ := W_ends hW v0 hC (u := u) (by omega) hE
      rw [bt_t, b1, bd_s, b3, bd_s, show f_It_bitCount S (endZ m E C u) = some (bcI (endZ m E C u), S) from rfl, bd_s, show gP m E C u acc = acc + bcI (endZ m E C u) from if_pos q]
      exact ih (u + 1) n _ (by omega) (by omega)
theorem pb_l {E : Nat → Nat → Bool} (hn : Tn S m) (hO : On S (fun u v => cIs m u && cIs m v && E u v)) (hZ : ∀ u, cIs m u = true → IsEE m E (cIs m) u (endZ m E (cIs m) u)) : ∀ (r u n : Nat) (acc : Int32), u + r = 40 → r < n → lp_M_pairsBy_10 n S acc (iN u) = some (fo (gP m E (cIs m)) r u acc, S) := by
  intro r
  induction r with
  | zero =>
    intro u n acc hu hn
    obtain ⟨n, rfl⟩ : ∃ q, n = q + 1 := ⟨n - 1, by omega⟩
    obtain rfl : u = 40 := by omega
    rw [lp_M_pairsBy_10, if_pos i40e]; rfl
  | succ r ih =>
    intro u n acc hu hn2
    obtain ⟨n, rfl⟩ : ∃ q, n = q + 1 := ⟨n - 1, by omega⟩
    rw [lp_M_pairsBy_10, if_neg (i40 (by omega)), pM_isCourse hn, bd_s, if_bI, iN_1, cIx_n (by omega), fo]
    cases q : cIs m u with
    | false =>
      rw [bt_f, show acc + (0 : Int32) = acc from Int32.add_zero acc, show gP m E (cIs m) u acc = acc from if_neg (by rw [q]; decide)]
      exact ih (u + 1) n acc (by omega) (by omega)
    | true =>
      obtain ⟨X, b1, b2, b3⟩ := M_ends hn hO q
      obtain ⟨x, e1, e2⟩ := endZ_s hn.1 (hZ u q)
      have e3 := pcn_a e2
      rw [bt_t, b1, bd_s, b3, bd_s, e1]
      unfold f_M_ones
      rw [ones_l (pcn x) x 1000 0 e2 rfl (by omega), bd_s, show (0 : Int32) + iN (pcn x) = iN (pcn x) from Int32.zero_add _, ← e3.1, ← e1, show gP m E (cIs m) u acc = acc + bcI (endZ m E (cIs m) u) from if_pos q]
      exact ih (u + 1) n _ (by omega) (by omega)
/-- the class's and the model's pairs, by the same turns -/
theorem W_pairs {E : Nat → Nat → Bool} (hW : Wy S m E) (v0 : VM m) {there : Int64} {C : Nat → Bool} (hC : ∀ v, v < 64 → jb there v = C v) (hE : ∀ u v, E u v = true → v < 2 * nSt m) : f_W_countPairs S there = some (fo (gP m E C) (2 * nSt m) 0 0, S) := by
  have hss := v0.s.2
  exact cp_l hW v0 hC hE (2 * nSt m) 0 1000 0 (by omega) (by omega)
theorem M_pairs {E : Nat → Nat → Bool} (hn : Tn S m) (hO : On S (fun u v => cIs m u && cIs m v && E u v)) (hZ : ∀ u, cIs m u = true → IsEE m E (cIs m) u (endZ m E (cIs m) u)) : lp_M_pairsBy_10 1000 S (0 : Int32) (0 : Int32) = some (fo (gP m E (cIs m)) (2 * nSt m) 0 0, S) := by
  have hss := hn.1.s.2
  have e := pb_l hn hO hZ 40 0 1000 0 (by omega) (by omega)
  rw [show (40 : Nat) = 2 * nSt m + (40 - 2 * nSt m) by omega, fo_more (g := gP m E (cIs m)) (2 * nSt m) (40 - 2 * nSt m) 0 0 (fun x h1 h2 a => if_neg (fun z => by have := cIs_lt z; omega))] at e
  exact e
/-- for the model: its sets are as the class's -/
theorem Z_of {E : Nat → Nat → Bool} (hn : Tn S m) (hO : On S (fun u v => cIs m u && cIs m v && E u v)) : ∀ u, cIs m u = true → IsEE m E (cIs m) u (endZ m E (cIs m) u) := by
  intro u cu
  have hss := hn.1.s.2
  have hu := cIs_lt cu
  have hE : ∀ x y, (cIs m x && cIs m y && E x y) = true → y < 2 * nSt m := fun x y h => by
    simp only [Bool.and_eq_true] at h
    exact cIs_lt h.1.2
  obtain ⟨X, h1, h2⟩ := pM_comeTo hO (c := u) (by omega) (fun x y h => by have := hE x y h; omega)
  have h2' : ∀ v, v < 64 → (jb X v = true ↔ RS (fun u v => E u v && cIs m v) u v) := fun v hv => (h2 v hv).trans (RS_c cu v).symm
  have hX : ∀ w, jb X w = true → w < 2 * nSt m := fun w hw => by
    have w64 : w < 64 := by
      rcases Nat.lt_or_ge w 64 with q | q
      · exact q
      · rw [jb_big q] at hw; exact absurd hw (by decide)
    exact ((h2 w w64).mp hw).closed (P := fun x => x < 2 * nSt m) (fun x y _ h => hE x y h) hu
  obtain ⟨Y, h3, h4⟩ := pM_endsOf hn hX
  have h5 : IsEE m E (cIs m) u Y := fun c hc => by
    rw [h4 c hc]
    constructor
    · rintro ⟨w, a, b, d⟩; exact ⟨w, a, (h2' w (by omega)).mp b, d⟩
    · rintro ⟨w, a, b, d⟩; exact ⟨w, a, (h2' w (by omega)).mpr b, d⟩
  have h6 := h5.z
  subst h6
  exact h5
theorem q_pairs (h : Inv k S) (y : Int32) : Q2 k S (f_X_pairs S y) (fun T => f_M_pairs T y) := by
  obtain ⟨m, l, ht⟩ := h.1
  by_cases q1 : 0 ≤ y.toInt ∧ y.toInt ≤ 9
  · obtain ⟨w, rfl, hw, ew⟩ := iN_of q1.1
    obtain ⟨S1, a1, a2, a3⟩ := prep2 h ht (w := w) (by omega)
    have ht1 := ht.fr a2
    obtain ⟨S2, c1, c2, c3, c4⟩ := onto2 (fr3 h a2) ht1 (w := w) (by omega)
    refine Q2.fr (r := fo (gP m (fun u v => mgW m l u v w) (cIs m)) (2 * nSt m) 0 0) h ?_ ?_ a2 c2
    · unfold f_X_pairs
      rw [(isWidth_y q1).1, bd_s, if_neg (by decide), a1, bd_s, W_pairs a3 ht.1.1 a3.1.2.2.2.1 (fun u v h => mgW_v h), bd_s]
    · show f_M_pairs S1 _ = _
      unfold f_M_pairs f_M_pairsBy
      rw [(isWidth_y q1).2, bd_s, if_neg (by decide), c1, bd_s, M_pairs (E := fun u v => mgW m l u v w) c4 c3 (Z_of c4 c3), bd_s]
  · refine Q2.same (r := -1) h ?_ ?_
    · unfold f_X_pairs
      rw [(isWidth_n q1).1, bd_s, if_pos rfl]
    · show f_M_pairs S _ = _
      unfold f_M_pairs
      rw [(isWidth_n q1).2, bd_s, if_pos rfl]
/-- other laws: by bits -/
def insI (x1 : Int32) : Int32 := (((((x1 &&& (1 : Int32)) <<< ((1 : Int32) &&& 31)) ||| (((x1 >>> ((1 : Int32) &&& 31)) &&& (1 : Int32)) * (12 : Int32))) ||| (((x1 >>> ((2 : Int32) &&& 31)) &&& (1 : Int32)) <<< ((4 : Int32) &&& 31))) ||| (((x1 >>> ((3 : Int32) &&& 31)) &&& (1 : Int32)) <<< ((5 : Int32) &&& 31)))
theorem ins_ok : ∀ b, b < 16 → ¬ insI (iN b) < 0 ∧ ∀ kd, kd < 6 → (decide (kd ≠ 0) && hbt (insI (iN b)) kd) = obt b kd := by decide +kernel
theorem mgB_e {b : Nat} (hb : b < 16) (u v : Nat) : mgB m (insI (iN b)) u v = (cIs m u && cIs m v && mgO m b u v) := by
  unfold mgB mgO
  have h5 := ckd_l (m := m) u v
  rw [(ins_ok b hb).2 _ (show ckd m u v < 6 by omega)]
  by_cases q : ckd m u v = 0
  · rw [q]
    cases h1 : cIs m u with
    | false => rfl
    | true =>
      cases h2 : cIs m v with
      | false => rfl
      | true =>
        have : wkd m u v = 0 := by
          unfold wkd
          unfold ckd at q
          rw [h1, h2] at q
          rw [cIs_w h1, cIs_w h2]
          exact q
        rw [this]; rfl
  · obtain ⟨e, h1, h2, -⟩ := ckd_w q
    rw [h1, h2, e]; rfl
theorem q_other (h : Inv k S) (x : Int32) : Q2 k S (f_X_other S x) (fun T => f_M_other T x) := by
  obtain ⟨m, l, ht⟩ := h.1
  by_cases q1 : 0 ≤ x.toInt ∧ x.toInt ≤ 15
  · obtain ⟨b, rfl, hb, eb⟩ := iN_of q1.1
    have hb : b < 16 := by omega
    obtain ⟨S1, a1, a2, a3⟩ := pW_prepare (PrB.bits (m := m) (l := l) hb) ht.1 ht.2.2.1
    have a2 := a2.mono wzScr
    have ht1 := ht.fr a2
    have f0 : Fr (fun a => a = 191) S1 (uI S1 191 3 (insI (iN b))) := Fr.rfl'.uI rfl
    obtain ⟨S2, c1, c2, c3⟩ := pM_findOnto (PrM.bits (m := m) (ins_ok b hb).1) (S := uI S1 191 3 (insI (iN b))) ⟨ht1.2.1.fr f0 (by decide), gI_us⟩
    have c4 : Tn S2 m := (ht1.2.1.fr f0 (by decide)).fr c2 (nOn (by omega))
    have c3' : On S2 (fun u v => cIs m u && cIs m v && mgO m b u v) := fun u hu v hv => by rw [c3 u hu v hv]; show (decide (v < 40) && mgB m (insI (iN b)) u v) = _; rw [mgB_e hb]
    have hE : ∀ u v, mgO m b u v = true → v < 2 * nSt m := fun u v h => by
      refine Classical.byContradiction fun z => ?_
      unfold mgO at h
      rw [wkd_v z] at h
      exact absurd h (by show ¬ obt b 0 = true; unfold obt; simp)
    refine ⟨fo (gP m (fun u v => mgO m b u v) (cIs m)) (2 * nSt m) 0 0, S1, uI S2 191 3 (-1), ?_, ?_, fun j => (a2 32 (nScr (by omega))).1 j, h.fr (a2.trans (fun a na => ⟨fun i => ?_, fun i => ?_⟩))⟩
    · unfold f_X_other
      rw [if_neg (lt_n rfl tl0 (by omega)), if_pos (le_y rfl tl15 (by omega)), a1, bd_s, W_pairs a3 ht.1.1 a3.1.2.2.2.1 hE, bd_s]
    · show f_M_other S1 _ = _
      unfold f_M_other f_M_pairsBy
      rw [in_y tl0 tl15 q1, bd_s, if_neg (by decide)]
      show bd (bd (f_M_findOnto (uI S1 191 3 (insI (iN b))) (0 : Int32) (0 : Int32)) _) _ = _
      rw [c1, bd_s, M_pairs (E := fun u v => mgO m b u v) c4 c3' (Z_of c4 c3'), bd_s]
    · rw [gI_u]
      by_cases z : a = 191 ∧ i = 3
      · rw [if_pos z, z.1, z.2]; exact (fr3 h a2).symm
      · rw [if_neg z, (c2 a (fun y => na (onScr a y))).1, gI_u, if_neg z]
    · exact (c2 a (fun y => na (onScr a y))).2 i
  · refine Q2.same (r := -1) h ?_ ?_
    · unfold f_X_other
      by_cases z : x.toInt < 0
      · rw [if_pos (lt_y rfl tl0 z)]
      · rw [if_neg (lt_n rfl tl0 (by omega)), if_neg (le_n rfl tl15 (by omega))]
    · show f_M_other S _ = _
      unfold f_M_other
      rw [in_n tl0 tl15 q1, bd_s, if_pos rfl]
end
